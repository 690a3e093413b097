theorem dX0_init_0 : decode cX0_init 0 = .ok (.aload_n 0, 1) := by decide +kernel
theorem dX0_init_1 : decode cX0_init 1 = .ok (.invokespecial 1, 3) := by decide +kernel
theorem dX0_init_4 : decode cX0_init 4 = .ok (.aload_n 0, 1) := by decide +kernel
theorem dX0_init_5 : decode cX0_init 5 = .ok (.bipush 89, 2) := by decide +kernel
theorem dX0_init_7 : decode cX0_init 7 = .ok (.newarray .long, 2) := by decide +kernel
theorem dX0_init_9 : decode cX0_init 9 = .ok (.putfield 9, 3) := by decide +kernel
theorem dX0_init_12 : decode cX0_init 12 = .ok (.aload_n 0, 1) := by decide +kernel
theorem dX0_init_13 : decode cX0_init 13 = .ok (.lconst 0, 1) := by decide +kernel
theorem dX0_init_14 : decode cX0_init 14 = .ok (.putfield 13, 3) := by decide +kernel
theorem dX0_init_17 : decode cX0_init 17 = .ok (.aload_n 0, 1) := by decide +kernel
theorem dX0_init_18 : decode cX0_init 18 = .ok (.lconst 1, 1) := by decide +kernel
theorem dX0_init_19 : decode cX0_init 19 = .ok (.putfield 17, 3) := by decide +kernel
theorem dX0_init_22 : decode cX0_init 22 = .ok (.return_, 1) := by decide +kernel
theorem dX0_reckon_0 : decode cX0_reckon 0 = .ok (.iconst 0, 1) := by decide +kernel
theorem dX0_reckon_1 : decode cX0_reckon 1 = .ok (.istore 6, 2) := by decide +kernel
theorem dX0_reckon_3 : decode cX0_reckon 3 = .ok (.iload 6, 2) := by decide +kernel
theorem dX0_reckon_5 : decode cX0_reckon 5 = .ok (.bipush 88, 2) := by decide +kernel
theorem dX0_reckon_7 : decode cX0_reckon 7 = .ok (.if_icmp .gt 17, 3) := by decide +kernel
theorem dX0_reckon_10 : decode cX0_reckon 10 = .ok (.aload_n 0, 1) := by decide +kernel
theorem dX0_reckon_11 : decode cX0_reckon 11 = .ok (.getfield 9, 3) := by decide +kernel
theorem dX0_reckon_14 : decode cX0_reckon 14 = .ok (.iload 6, 2) := by decide +kernel
theorem dX0_reckon_16 : decode cX0_reckon 16 = .ok (.lconst 0, 1) := by decide +kernel
theorem dX0_reckon_17 : decode cX0_reckon 17 = .ok (.lastore, 1) := by decide +kernel
theorem dX0_reckon_18 : decode cX0_reckon 18 = .ok (.iinc 6 1, 3) := by decide +kernel
theorem dX0_reckon_21 : decode cX0_reckon 21 = .ok (.goto (-18), 3) := by decide +kernel
theorem dX0_reckon_24 : decode cX0_reckon 24 = .ok (.aload_n 0, 1) := by decide +kernel
theorem dX0_reckon_25 : decode cX0_reckon 25 = .ok (.getfield 9, 3) := by decide +kernel
theorem dX0_reckon_28 : decode cX0_reckon 28 = .ok (.iconst 0, 1) := by decide +kernel
theorem dX0_reckon_29 : decode cX0_reckon 29 = .ok (.lconst 1, 1) := by decide +kernel
theorem dX0_reckon_30 : decode cX0_reckon 30 = .ok (.lastore, 1) := by decide +kernel
theorem dX0_reckon_31 : decode cX0_reckon 31 = .ok (.aload_n 0, 1) := by decide +kernel
theorem dX0_reckon_32 : decode cX0_reckon 32 = .ok (.lconst 0, 1) := by decide +kernel
theorem dX0_reckon_33 : decode cX0_reckon 33 = .ok (.putfield 13, 3) := by decide +kernel
theorem dX0_reckon_36 : decode cX0_reckon 36 = .ok (.aload_n 0, 1) := by decide +kernel
theorem dX0_reckon_37 : decode cX0_reckon 37 = .ok (.lconst 1, 1) := by decide +kernel
theorem dX0_reckon_38 : decode cX0_reckon 38 = .ok (.putfield 17, 3) := by decide +kernel
theorem dX0_reckon_41 : decode cX0_reckon 41 = .ok (.iconst 0, 1) := by decide +kernel
theorem dX0_reckon_42 : decode cX0_reckon 42 = .ok (.istore 6, 2) := by decide +kernel
theorem dX0_reckon_44 : decode cX0_reckon 44 = .ok (.iload 6, 2) := by decide +kernel
theorem dX0_reckon_46 : decode cX0_reckon 46 = .ok (.iload 4, 2) := by decide +kernel
theorem dX0_reckon_48 : decode cX0_reckon 48 = .ok (.if_icmp .ge 33, 3) := by decide +kernel
theorem dX0_reckon_51 : decode cX0_reckon 51 = .ok (.aload_n 0, 1) := by decide +kernel
theorem dX0_reckon_52 : decode cX0_reckon 52 = .ok (.iload_n 1, 1) := by decide +kernel
theorem dX0_reckon_53 : decode cX0_reckon 53 = .ok (.aload_n 2, 1) := by decide +kernel
theorem dX0_reckon_54 : decode cX0_reckon 54 = .ok (.iload 6, 2) := by decide +kernel
theorem dX0_reckon_56 : decode cX0_reckon 56 = .ok (.iload_n 3, 1) := by decide +kernel
theorem dX0_reckon_57 : decode cX0_reckon 57 = .ok (.invokevirtual 20, 3) := by decide +kernel
theorem dX0_reckon_60 : decode cX0_reckon 60 = .ok (.invokevirtual 26, 3) := by decide +kernel
theorem dX0_reckon_63 : decode cX0_reckon 63 = .ok (.aload_n 0, 1) := by decide +kernel
theorem dX0_reckon_64 : decode cX0_reckon 64 = .ok (.dup, 1) := by decide +kernel
theorem dX0_reckon_65 : decode cX0_reckon 65 = .ok (.getfield 17, 3) := by decide +kernel
theorem dX0_reckon_68 : decode cX0_reckon 68 = .ok (.ldc2_w 30, 3) := by decide +kernel
theorem dX0_reckon_71 : decode cX0_reckon 71 = .ok (.lmul, 1) := by decide +kernel
theorem dX0_reckon_72 : decode cX0_reckon 72 = .ok (.putfield 17, 3) := by decide +kernel
theorem dX0_reckon_75 : decode cX0_reckon 75 = .ok (.iinc 6 1, 3) := by decide +kernel
theorem dX0_reckon_78 : decode cX0_reckon 78 = .ok (.goto (-34), 3) := by decide +kernel
theorem dX0_reckon_81 : decode cX0_reckon 81 = .ok (.iload 5, 2) := by decide +kernel
theorem dX0_reckon_83 : decode cX0_reckon 83 = .ok (.istore 6, 2) := by decide +kernel
theorem dX0_reckon_85 : decode cX0_reckon 85 = .ok (.iload 6, 2) := by decide +kernel
theorem dX0_reckon_87 : decode cX0_reckon 87 = .ok (.bipush 88, 2) := by decide +kernel
theorem dX0_reckon_89 : decode cX0_reckon 89 = .ok (.if_icmp .gt 25, 3) := by decide +kernel
theorem dX0_reckon_92 : decode cX0_reckon 92 = .ok (.aload_n 0, 1) := by decide +kernel
theorem dX0_reckon_93 : decode cX0_reckon 93 = .ok (.dup, 1) := by decide +kernel
theorem dX0_reckon_94 : decode cX0_reckon 94 = .ok (.getfield 13, 3) := by decide +kernel
theorem dX0_reckon_97 : decode cX0_reckon 97 = .ok (.aload_n 0, 1) := by decide +kernel
theorem dX0_reckon_98 : decode cX0_reckon 98 = .ok (.getfield 9, 3) := by decide +kernel
theorem dX0_reckon_101 : decode cX0_reckon 101 = .ok (.iload 6, 2) := by decide +kernel
theorem dX0_reckon_103 : decode cX0_reckon 103 = .ok (.laload, 1) := by decide +kernel
theorem dX0_reckon_104 : decode cX0_reckon 104 = .ok (.ladd, 1) := by decide +kernel
theorem dX0_reckon_105 : decode cX0_reckon 105 = .ok (.putfield 13, 3) := by decide +kernel
theorem dX0_reckon_108 : decode cX0_reckon 108 = .ok (.iinc 6 1, 3) := by decide +kernel
theorem dX0_reckon_111 : decode cX0_reckon 111 = .ok (.goto (-26), 3) := by decide +kernel
theorem dX0_reckon_114 : decode cX0_reckon 114 = .ok (.aload_n 0, 1) := by decide +kernel
theorem dX0_reckon_115 : decode cX0_reckon 115 = .ok (.invokevirtual 32, 3) := by decide +kernel
theorem dX0_reckon_118 : decode cX0_reckon 118 = .ok (.return_, 1) := by decide +kernel
theorem dX0_join_0 : decode cX0_join 0 = .ok (.bipush 88, 2) := by decide +kernel
theorem dX0_join_2 : decode cX0_join 2 = .ok (.istore_n 3, 1) := by decide +kernel
theorem dX0_join_3 : decode cX0_join 3 = .ok (.iload_n 3, 1) := by decide +kernel
theorem dX0_join_4 : decode cX0_join 4 = .ok (.ifCond .lt 56, 3) := by decide +kernel
theorem dX0_join_7 : decode cX0_join 7 = .ok (.iload_n 2, 1) := by decide +kernel
theorem dX0_join_8 : decode cX0_join 8 = .ok (.ifCond .lt 22, 3) := by decide +kernel
theorem dX0_join_11 : decode cX0_join 11 = .ok (.iload_n 3, 1) := by decide +kernel
theorem dX0_join_12 : decode cX0_join 12 = .ok (.iload_n 2, 1) := by decide +kernel
theorem dX0_join_13 : decode cX0_join 13 = .ok (.if_icmp .lt 17, 3) := by decide +kernel
theorem dX0_join_16 : decode cX0_join 16 = .ok (.aload_n 0, 1) := by decide +kernel
theorem dX0_join_17 : decode cX0_join 17 = .ok (.getfield 9, 3) := by decide +kernel
theorem dX0_join_20 : decode cX0_join 20 = .ok (.iload_n 3, 1) := by decide +kernel
theorem dX0_join_21 : decode cX0_join 21 = .ok (.iload_n 2, 1) := by decide +kernel
theorem dX0_join_22 : decode cX0_join 22 = .ok (.isub, 1) := by decide +kernel
theorem dX0_join_23 : decode cX0_join 23 = .ok (.laload, 1) := by decide +kernel
theorem dX0_join_24 : decode cX0_join 24 = .ok (.iload_n 1, 1) := by decide +kernel
theorem dX0_join_25 : decode cX0_join 25 = .ok (.i2l, 1) := by decide +kernel
theorem dX0_join_26 : decode cX0_join 26 = .ok (.lmul, 1) := by decide +kernel
theorem dX0_join_27 : decode cX0_join 27 = .ok (.goto 4, 3) := by decide +kernel
theorem dX0_join_30 : decode cX0_join 30 = .ok (.lconst 0, 1) := by decide +kernel
theorem dX0_join_31 : decode cX0_join 31 = .ok (.lstore 4, 2) := by decide +kernel
theorem dX0_join_33 : decode cX0_join 33 = .ok (.aload_n 0, 1) := by decide +kernel
theorem dX0_join_34 : decode cX0_join 34 = .ok (.getfield 9, 3) := by decide +kernel
theorem dX0_join_37 : decode cX0_join 37 = .ok (.iload_n 3, 1) := by decide +kernel
theorem dX0_join_38 : decode cX0_join 38 = .ok (.aload_n 0, 1) := by decide +kernel
theorem dX0_join_39 : decode cX0_join 39 = .ok (.getfield 9, 3) := by decide +kernel
theorem dX0_join_42 : decode cX0_join 42 = .ok (.iload_n 3, 1) := by decide +kernel
theorem dX0_join_43 : decode cX0_join 43 = .ok (.laload, 1) := by decide +kernel
theorem dX0_join_44 : decode cX0_join 44 = .ok (.bipush 16, 2) := by decide +kernel
theorem dX0_join_46 : decode cX0_join 46 = .ok (.iload_n 1, 1) := by decide +kernel
theorem dX0_join_47 : decode cX0_join 47 = .ok (.isub, 1) := by decide +kernel
theorem dX0_join_48 : decode cX0_join 48 = .ok (.i2l, 1) := by decide +kernel
theorem dX0_join_49 : decode cX0_join 49 = .ok (.lmul, 1) := by decide +kernel
theorem dX0_join_50 : decode cX0_join 50 = .ok (.lload 4, 2) := by decide +kernel
theorem dX0_join_52 : decode cX0_join 52 = .ok (.ladd, 1) := by decide +kernel
theorem dX0_join_53 : decode cX0_join 53 = .ok (.lastore, 1) := by decide +kernel
theorem dX0_join_54 : decode cX0_join 54 = .ok (.iinc 3 (-1), 3) := by decide +kernel
theorem dX0_join_57 : decode cX0_join 57 = .ok (.goto (-54), 3) := by decide +kernel
theorem dX0_join_60 : decode cX0_join 60 = .ok (.return_, 1) := by decide +kernel
theorem dX0_reduce_0 : decode cX0_reduce 0 = .ok (.iconst 0, 1) := by decide +kernel
theorem dX0_reduce_1 : decode cX0_reduce 1 = .ok (.istore_n 1, 1) := by decide +kernel
theorem dX0_reduce_2 : decode cX0_reduce 2 = .ok (.iload_n 1, 1) := by decide +kernel
theorem dX0_reduce_3 : decode cX0_reduce 3 = .ok (.bipush 32, 2) := by decide +kernel
theorem dX0_reduce_5 : decode cX0_reduce 5 = .ok (.if_icmp .ge 55, 3) := by decide +kernel
theorem dX0_reduce_8 : decode cX0_reduce 8 = .ok (.aload_n 0, 1) := by decide +kernel
theorem dX0_reduce_9 : decode cX0_reduce 9 = .ok (.getfield 13, 3) := by decide +kernel
theorem dX0_reduce_12 : decode cX0_reduce 12 = .ok (.lconst 1, 1) := by decide +kernel
theorem dX0_reduce_13 : decode cX0_reduce 13 = .ok (.land, 1) := by decide +kernel
theorem dX0_reduce_14 : decode cX0_reduce 14 = .ok (.lconst 0, 1) := by decide +kernel
theorem dX0_reduce_15 : decode cX0_reduce 15 = .ok (.lcmp, 1) := by decide +kernel
theorem dX0_reduce_16 : decode cX0_reduce 16 = .ok (.ifCond .ne 44, 3) := by decide +kernel
theorem dX0_reduce_19 : decode cX0_reduce 19 = .ok (.aload_n 0, 1) := by decide +kernel
theorem dX0_reduce_20 : decode cX0_reduce 20 = .ok (.getfield 17, 3) := by decide +kernel
theorem dX0_reduce_23 : decode cX0_reduce 23 = .ok (.lconst 1, 1) := by decide +kernel
theorem dX0_reduce_24 : decode cX0_reduce 24 = .ok (.land, 1) := by decide +kernel
theorem dX0_reduce_25 : decode cX0_reduce 25 = .ok (.lconst 0, 1) := by decide +kernel
theorem dX0_reduce_26 : decode cX0_reduce 26 = .ok (.lcmp, 1) := by decide +kernel
theorem dX0_reduce_27 : decode cX0_reduce 27 = .ok (.ifCond .ne 33, 3) := by decide +kernel
theorem dX0_reduce_30 : decode cX0_reduce 30 = .ok (.aload_n 0, 1) := by decide +kernel
theorem dX0_reduce_31 : decode cX0_reduce 31 = .ok (.dup, 1) := by decide +kernel
theorem dX0_reduce_32 : decode cX0_reduce 32 = .ok (.getfield 13, 3) := by decide +kernel
theorem dX0_reduce_35 : decode cX0_reduce 35 = .ok (.ldc2_w 35, 3) := by decide +kernel
theorem dX0_reduce_38 : decode cX0_reduce 38 = .ok (.ldiv, 1) := by decide +kernel
theorem dX0_reduce_39 : decode cX0_reduce 39 = .ok (.putfield 13, 3) := by decide +kernel
theorem dX0_reduce_42 : decode cX0_reduce 42 = .ok (.aload_n 0, 1) := by decide +kernel
theorem dX0_reduce_43 : decode cX0_reduce 43 = .ok (.dup, 1) := by decide +kernel
theorem dX0_reduce_44 : decode cX0_reduce 44 = .ok (.getfield 17, 3) := by decide +kernel
theorem dX0_reduce_47 : decode cX0_reduce 47 = .ok (.ldc2_w 35, 3) := by decide +kernel
theorem dX0_reduce_50 : decode cX0_reduce 50 = .ok (.ldiv, 1) := by decide +kernel
theorem dX0_reduce_51 : decode cX0_reduce 51 = .ok (.putfield 17, 3) := by decide +kernel
theorem dX0_reduce_54 : decode cX0_reduce 54 = .ok (.iinc 1 1, 3) := by decide +kernel
theorem dX0_reduce_57 : decode cX0_reduce 57 = .ok (.goto (-55), 3) := by decide +kernel
theorem dX0_reduce_60 : decode cX0_reduce 60 = .ok (.return_, 1) := by decide +kernel
theorem dX1_init_0 : decode cX1_init 0 = .ok (.aload_n 0, 1) := by decide +kernel
theorem dX1_init_1 : decode cX1_init 1 = .ok (.invokespecial 3, 3) := by decide +kernel
theorem dX1_init_4 : decode cX1_init 4 = .ok (.aload_n 0, 1) := by decide +kernel
theorem dX1_init_5 : decode cX1_init 5 = .ok (.bipush 64, 2) := by decide +kernel
theorem dX1_init_7 : decode cX1_init 7 = .ok (.newarray .int, 2) := by decide +kernel
theorem dX1_init_9 : decode cX1_init 9 = .ok (.putfield 9, 3) := by decide +kernel
theorem dX1_init_12 : decode cX1_init 12 = .ok (.aload_n 0, 1) := by decide +kernel
theorem dX1_init_13 : decode cX1_init 13 = .ok (.bipush 8, 2) := by decide +kernel
theorem dX1_init_15 : decode cX1_init 15 = .ok (.newarray .int, 2) := by decide +kernel
theorem dX1_init_17 : decode cX1_init 17 = .ok (.putfield 15, 3) := by decide +kernel
theorem dX1_init_20 : decode cX1_init 20 = .ok (.aload_n 0, 1) := by decide +kernel
theorem dX1_init_21 : decode cX1_init 21 = .ok (.bipush 8, 2) := by decide +kernel
theorem dX1_init_23 : decode cX1_init 23 = .ok (.newarray .int, 2) := by decide +kernel
theorem dX1_init_25 : decode cX1_init 25 = .ok (.putfield 18, 3) := by decide +kernel
theorem dX1_init_28 : decode cX1_init 28 = .ok (.aload_n 0, 1) := by decide +kernel
theorem dX1_init_29 : decode cX1_init 29 = .ok (.bipush 8, 2) := by decide +kernel
theorem dX1_init_31 : decode cX1_init 31 = .ok (.newarray .int, 2) := by decide +kernel
theorem dX1_init_33 : decode cX1_init 33 = .ok (.putfield 21, 3) := by decide +kernel
theorem dX1_init_36 : decode cX1_init 36 = .ok (.aload_n 0, 1) := by decide +kernel
theorem dX1_init_37 : decode cX1_init 37 = .ok (.bipush 8, 2) := by decide +kernel
theorem dX1_init_39 : decode cX1_init 39 = .ok (.newarray .int, 2) := by decide +kernel
theorem dX1_init_41 : decode cX1_init 41 = .ok (.putfield 24, 3) := by decide +kernel
theorem dX1_init_44 : decode cX1_init 44 = .ok (.aload_n 0, 1) := by decide +kernel
theorem dX1_init_45 : decode cX1_init 45 = .ok (.bipush 8, 2) := by decide +kernel
theorem dX1_init_47 : decode cX1_init 47 = .ok (.newarray .int, 2) := by decide +kernel
theorem dX1_init_49 : decode cX1_init 49 = .ok (.putfield 27, 3) := by decide +kernel
theorem dX1_init_52 : decode cX1_init 52 = .ok (.aload_n 0, 1) := by decide +kernel
theorem dX1_init_53 : decode cX1_init 53 = .ok (.bipush 8, 2) := by decide +kernel
theorem dX1_init_55 : decode cX1_init 55 = .ok (.newarray .int, 2) := by decide +kernel
theorem dX1_init_57 : decode cX1_init 57 = .ok (.putfield 30, 3) := by decide +kernel
theorem dX1_init_60 : decode cX1_init 60 = .ok (.aload_n 0, 1) := by decide +kernel
theorem dX1_init_61 : decode cX1_init 61 = .ok (.iconst 0, 1) := by decide +kernel
theorem dX1_init_62 : decode cX1_init 62 = .ok (.putfield 33, 3) := by decide +kernel
theorem dX1_init_65 : decode cX1_init 65 = .ok (.return_, 1) := by decide +kernel
theorem dX1_hold_0 : decode cX1_hold 0 = .ok (.aload_n 0, 1) := by decide +kernel
theorem dX1_hold_1 : decode cX1_hold 1 = .ok (.iconst 0, 1) := by decide +kernel
theorem dX1_hold_2 : decode cX1_hold 2 = .ok (.putfield 33, 3) := by decide +kernel
theorem dX1_hold_5 : decode cX1_hold 5 = .ok (.iconst 0, 1) := by decide +kernel
theorem dX1_hold_6 : decode cX1_hold 6 = .ok (.istore 4, 2) := by decide +kernel
theorem dX1_hold_8 : decode cX1_hold 8 = .ok (.iload 4, 2) := by decide +kernel
theorem dX1_hold_10 : decode cX1_hold 10 = .ok (.bipush 8, 2) := by decide +kernel
theorem dX1_hold_12 : decode cX1_hold 12 = .ok (.if_icmp .ge 25, 3) := by decide +kernel
theorem dX1_hold_15 : decode cX1_hold 15 = .ok (.aload_n 0, 1) := by decide +kernel
theorem dX1_hold_16 : decode cX1_hold 16 = .ok (.getfield 27, 3) := by decide +kernel
theorem dX1_hold_19 : decode cX1_hold 19 = .ok (.iload 4, 2) := by decide +kernel
theorem dX1_hold_21 : decode cX1_hold 21 = .ok (.iconst 0, 1) := by decide +kernel
theorem dX1_hold_22 : decode cX1_hold 22 = .ok (.iastore, 1) := by decide +kernel
theorem dX1_hold_23 : decode cX1_hold 23 = .ok (.aload_n 0, 1) := by decide +kernel
theorem dX1_hold_24 : decode cX1_hold 24 = .ok (.getfield 30, 3) := by decide +kernel
theorem dX1_hold_27 : decode cX1_hold 27 = .ok (.iload 4, 2) := by decide +kernel
theorem dX1_hold_29 : decode cX1_hold 29 = .ok (.iconst 0, 1) := by decide +kernel
theorem dX1_hold_30 : decode cX1_hold 30 = .ok (.iastore, 1) := by decide +kernel
theorem dX1_hold_31 : decode cX1_hold 31 = .ok (.iinc 4 1, 3) := by decide +kernel
theorem dX1_hold_34 : decode cX1_hold 34 = .ok (.goto (-26), 3) := by decide +kernel
theorem dX1_hold_37 : decode cX1_hold 37 = .ok (.iconst 0, 1) := by decide +kernel
theorem dX1_hold_38 : decode cX1_hold 38 = .ok (.istore 4, 2) := by decide +kernel
theorem dX1_hold_40 : decode cX1_hold 40 = .ok (.iload 4, 2) := by decide +kernel
theorem dX1_hold_42 : decode cX1_hold 42 = .ok (.aload_n 2, 1) := by decide +kernel
theorem dX1_hold_43 : decode cX1_hold 43 = .ok (.getfield 37, 3) := by decide +kernel
theorem dX1_hold_46 : decode cX1_hold 46 = .ok (.if_icmp .ge 24, 3) := by decide +kernel
theorem dX1_hold_49 : decode cX1_hold 49 = .ok (.aload_n 3, 1) := by decide +kernel
theorem dX1_hold_50 : decode cX1_hold 50 = .ok (.aload_n 1, 1) := by decide +kernel
theorem dX1_hold_51 : decode cX1_hold 51 = .ok (.aload_n 2, 1) := by decide +kernel
theorem dX1_hold_52 : decode cX1_hold 52 = .ok (.iload 4, 2) := by decide +kernel
theorem dX1_hold_54 : decode cX1_hold 54 = .ok (.invokevirtual 42, 3) := by decide +kernel
theorem dX1_hold_57 : decode cX1_hold 57 = .ok (.aload_n 0, 1) := by decide +kernel
theorem dX1_hold_58 : decode cX1_hold 58 = .ok (.iload 4, 2) := by decide +kernel
theorem dX1_hold_60 : decode cX1_hold 60 = .ok (.aload_n 3, 1) := by decide +kernel
theorem dX1_hold_61 : decode cX1_hold 61 = .ok (.invokevirtual 48, 3) := by decide +kernel
theorem dX1_hold_64 : decode cX1_hold 64 = .ok (.iinc 4 1, 3) := by decide +kernel
theorem dX1_hold_67 : decode cX1_hold 67 = .ok (.goto (-27), 3) := by decide +kernel
theorem dX1_hold_70 : decode cX1_hold 70 = .ok (.return_, 1) := by decide +kernel
theorem dX1_enter_0 : decode cX1_enter 0 = .ok (.aload_n 0, 1) := by decide +kernel
theorem dX1_enter_1 : decode cX1_enter 1 = .ok (.getfield 15, 3) := by decide +kernel
theorem dX1_enter_4 : decode cX1_enter 4 = .ok (.iload_n 1, 1) := by decide +kernel
theorem dX1_enter_5 : decode cX1_enter 5 = .ok (.aload_n 2, 1) := by decide +kernel
theorem dX1_enter_6 : decode cX1_enter 6 = .ok (.getfield 52, 3) := by decide +kernel
theorem dX1_enter_9 : decode cX1_enter 9 = .ok (.iastore, 1) := by decide +kernel
theorem dX1_enter_10 : decode cX1_enter 10 = .ok (.aload_n 0, 1) := by decide +kernel
theorem dX1_enter_11 : decode cX1_enter 11 = .ok (.getfield 18, 3) := by decide +kernel
theorem dX1_enter_14 : decode cX1_enter 14 = .ok (.iload_n 1, 1) := by decide +kernel
theorem dX1_enter_15 : decode cX1_enter 15 = .ok (.aload_n 2, 1) := by decide +kernel
theorem dX1_enter_16 : decode cX1_enter 16 = .ok (.getfield 54, 3) := by decide +kernel
theorem dX1_enter_19 : decode cX1_enter 19 = .ok (.iastore, 1) := by decide +kernel
theorem dX1_enter_20 : decode cX1_enter 20 = .ok (.aload_n 0, 1) := by decide +kernel
theorem dX1_enter_21 : decode cX1_enter 21 = .ok (.getfield 21, 3) := by decide +kernel
theorem dX1_enter_24 : decode cX1_enter 24 = .ok (.iload_n 1, 1) := by decide +kernel
theorem dX1_enter_25 : decode cX1_enter 25 = .ok (.aload_n 2, 1) := by decide +kernel
theorem dX1_enter_26 : decode cX1_enter 26 = .ok (.getfield 56, 3) := by decide +kernel
theorem dX1_enter_29 : decode cX1_enter 29 = .ok (.iastore, 1) := by decide +kernel
theorem dX1_enter_30 : decode cX1_enter 30 = .ok (.aload_n 0, 1) := by decide +kernel
theorem dX1_enter_31 : decode cX1_enter 31 = .ok (.getfield 24, 3) := by decide +kernel
theorem dX1_enter_34 : decode cX1_enter 34 = .ok (.iload_n 1, 1) := by decide +kernel
theorem dX1_enter_35 : decode cX1_enter 35 = .ok (.aload_n 2, 1) := by decide +kernel
theorem dX1_enter_36 : decode cX1_enter 36 = .ok (.getfield 58, 3) := by decide +kernel
theorem dX1_enter_39 : decode cX1_enter 39 = .ok (.iastore, 1) := by decide +kernel
theorem dX1_enter_40 : decode cX1_enter 40 = .ok (.aload_n 0, 1) := by decide +kernel
theorem dX1_enter_41 : decode cX1_enter 41 = .ok (.dup, 1) := by decide +kernel
theorem dX1_enter_42 : decode cX1_enter 42 = .ok (.getfield 33, 3) := by decide +kernel
theorem dX1_enter_45 : decode cX1_enter 45 = .ok (.aload_n 2, 1) := by decide +kernel
theorem dX1_enter_46 : decode cX1_enter 46 = .ok (.getfield 60, 3) := by decide +kernel
theorem dX1_enter_49 : decode cX1_enter 49 = .ok (.ior, 1) := by decide +kernel
theorem dX1_enter_50 : decode cX1_enter 50 = .ok (.putfield 33, 3) := by decide +kernel
theorem dX1_enter_53 : decode cX1_enter 53 = .ok (.iconst 0, 1) := by decide +kernel
theorem dX1_enter_54 : decode cX1_enter 54 = .ok (.istore_n 3, 1) := by decide +kernel
theorem dX1_enter_55 : decode cX1_enter 55 = .ok (.iload_n 3, 1) := by decide +kernel
theorem dX1_enter_56 : decode cX1_enter 56 = .ok (.bipush 8, 2) := by decide +kernel
theorem dX1_enter_58 : decode cX1_enter 58 = .ok (.if_icmp .ge 59, 3) := by decide +kernel
theorem dX1_enter_61 : decode cX1_enter 61 = .ok (.aload_n 0, 1) := by decide +kernel
theorem dX1_enter_62 : decode cX1_enter 62 = .ok (.getfield 9, 3) := by decide +kernel
theorem dX1_enter_65 : decode cX1_enter 65 = .ok (.iload_n 1, 1) := by decide +kernel
theorem dX1_enter_66 : decode cX1_enter 66 = .ok (.bipush 8, 2) := by decide +kernel
theorem dX1_enter_68 : decode cX1_enter 68 = .ok (.imul, 1) := by decide +kernel
theorem dX1_enter_69 : decode cX1_enter 69 = .ok (.iload_n 3, 1) := by decide +kernel
theorem dX1_enter_70 : decode cX1_enter 70 = .ok (.iadd, 1) := by decide +kernel
theorem dX1_enter_71 : decode cX1_enter 71 = .ok (.aload_n 2, 1) := by decide +kernel
theorem dX1_enter_72 : decode cX1_enter 72 = .ok (.getfield 61, 3) := by decide +kernel
theorem dX1_enter_75 : decode cX1_enter 75 = .ok (.iload_n 3, 1) := by decide +kernel
theorem dX1_enter_76 : decode cX1_enter 76 = .ok (.iaload, 1) := by decide +kernel
theorem dX1_enter_77 : decode cX1_enter 77 = .ok (.iastore, 1) := by decide +kernel
theorem dX1_enter_78 : decode cX1_enter 78 = .ok (.aload_n 0, 1) := by decide +kernel
theorem dX1_enter_79 : decode cX1_enter 79 = .ok (.getfield 27, 3) := by decide +kernel
theorem dX1_enter_82 : decode cX1_enter 82 = .ok (.iload_n 3, 1) := by decide +kernel
theorem dX1_enter_83 : decode cX1_enter 83 = .ok (.dup2, 1) := by decide +kernel
theorem dX1_enter_84 : decode cX1_enter 84 = .ok (.iaload, 1) := by decide +kernel
theorem dX1_enter_85 : decode cX1_enter 85 = .ok (.aload_n 2, 1) := by decide +kernel
theorem dX1_enter_86 : decode cX1_enter 86 = .ok (.getfield 61, 3) := by decide +kernel
theorem dX1_enter_89 : decode cX1_enter 89 = .ok (.iload_n 3, 1) := by decide +kernel
theorem dX1_enter_90 : decode cX1_enter 90 = .ok (.iaload, 1) := by decide +kernel
theorem dX1_enter_91 : decode cX1_enter 91 = .ok (.iadd, 1) := by decide +kernel
theorem dX1_enter_92 : decode cX1_enter 92 = .ok (.iastore, 1) := by decide +kernel
theorem dX1_enter_93 : decode cX1_enter 93 = .ok (.aload_n 2, 1) := by decide +kernel
theorem dX1_enter_94 : decode cX1_enter 94 = .ok (.getfield 52, 3) := by decide +kernel
theorem dX1_enter_97 : decode cX1_enter 97 = .ok (.iload_n 3, 1) := by decide +kernel
theorem dX1_enter_98 : decode cX1_enter 98 = .ok (.if_icmp .ne 13, 3) := by decide +kernel
theorem dX1_enter_101 : decode cX1_enter 101 = .ok (.aload_n 0, 1) := by decide +kernel
theorem dX1_enter_102 : decode cX1_enter 102 = .ok (.getfield 30, 3) := by decide +kernel
theorem dX1_enter_105 : decode cX1_enter 105 = .ok (.iload_n 3, 1) := by decide +kernel
theorem dX1_enter_106 : decode cX1_enter 106 = .ok (.dup2, 1) := by decide +kernel
theorem dX1_enter_107 : decode cX1_enter 107 = .ok (.iaload, 1) := by decide +kernel
theorem dX1_enter_108 : decode cX1_enter 108 = .ok (.iconst 1, 1) := by decide +kernel
theorem dX1_enter_109 : decode cX1_enter 109 = .ok (.iadd, 1) := by decide +kernel
theorem dX1_enter_110 : decode cX1_enter 110 = .ok (.iastore, 1) := by decide +kernel
theorem dX1_enter_111 : decode cX1_enter 111 = .ok (.iinc 3 1, 3) := by decide +kernel
theorem dX1_enter_114 : decode cX1_enter 114 = .ok (.goto (-59), 3) := by decide +kernel
theorem dX1_enter_117 : decode cX1_enter 117 = .ok (.return_, 1) := by decide +kernel
theorem dX1_gaveTo_0 : decode cX1_gaveTo 0 = .ok (.aload_n 0, 1) := by decide +kernel
theorem dX1_gaveTo_1 : decode cX1_gaveTo 1 = .ok (.getfield 9, 3) := by decide +kernel
theorem dX1_gaveTo_4 : decode cX1_gaveTo 4 = .ok (.iload_n 1, 1) := by decide +kernel
theorem dX1_gaveTo_5 : decode cX1_gaveTo 5 = .ok (.bipush 8, 2) := by decide +kernel
theorem dX1_gaveTo_7 : decode cX1_gaveTo 7 = .ok (.imul, 1) := by decide +kernel
theorem dX1_gaveTo_8 : decode cX1_gaveTo 8 = .ok (.iload_n 2, 1) := by decide +kernel
theorem dX1_gaveTo_9 : decode cX1_gaveTo 9 = .ok (.iadd, 1) := by decide +kernel
theorem dX1_gaveTo_10 : decode cX1_gaveTo 10 = .ok (.iaload, 1) := by decide +kernel
theorem dX1_gaveTo_11 : decode cX1_gaveTo 11 = .ok (.ireturn, 1) := by decide +kernel
theorem dX2_init_0 : decode cX2_init 0 = .ok (.aload_n 0, 1) := by decide +kernel
theorem dX2_init_1 : decode cX2_init 1 = .ok (.invokespecial 3, 3) := by decide +kernel
theorem dX2_init_4 : decode cX2_init 4 = .ok (.aload_n 0, 1) := by decide +kernel
theorem dX2_init_5 : decode cX2_init 5 = .ok (.bipush 8, 2) := by decide +kernel
theorem dX2_init_7 : decode cX2_init 7 = .ok (.newarray .int, 2) := by decide +kernel
theorem dX2_init_9 : decode cX2_init 9 = .ok (.putfield 9, 3) := by decide +kernel
theorem dX2_init_12 : decode cX2_init 12 = .ok (.aload_n 0, 1) := by decide +kernel
theorem dX2_init_13 : decode cX2_init 13 = .ok (.bipush 8, 2) := by decide +kernel
theorem dX2_init_15 : decode cX2_init 15 = .ok (.newarray .int, 2) := by decide +kernel
theorem dX2_init_17 : decode cX2_init 17 = .ok (.putfield 15, 3) := by decide +kernel
theorem dX2_init_20 : decode cX2_init 20 = .ok (.aload_n 0, 1) := by decide +kernel
theorem dX2_init_21 : decode cX2_init 21 = .ok (.bipush 8, 2) := by decide +kernel
theorem dX2_init_23 : decode cX2_init 23 = .ok (.newarray .int, 2) := by decide +kernel
theorem dX2_init_25 : decode cX2_init 25 = .ok (.putfield 18, 3) := by decide +kernel
theorem dX2_init_28 : decode cX2_init 28 = .ok (.aload_n 0, 1) := by decide +kernel
theorem dX2_init_29 : decode cX2_init 29 = .ok (.bipush 8, 2) := by decide +kernel
theorem dX2_init_31 : decode cX2_init 31 = .ok (.newarray .int, 2) := by decide +kernel
theorem dX2_init_33 : decode cX2_init 33 = .ok (.putfield 21, 3) := by decide +kernel
theorem dX2_init_36 : decode cX2_init 36 = .ok (.aload_n 0, 1) := by decide +kernel
theorem dX2_init_37 : decode cX2_init 37 = .ok (.iconst 0, 1) := by decide +kernel
theorem dX2_init_38 : decode cX2_init 38 = .ok (.putfield 24, 3) := by decide +kernel
theorem dX2_init_41 : decode cX2_init 41 = .ok (.return_, 1) := by decide +kernel
theorem dX2_parse_0 : decode cX2_parse 0 = .ok (.aload_n 0, 1) := by decide +kernel
theorem dX2_parse_1 : decode cX2_parse 1 = .ok (.aload_n 1, 1) := by decide +kernel
theorem dX2_parse_2 : decode cX2_parse 2 = .ok (.invokevirtual 28, 3) := by decide +kernel
theorem dX2_parse_5 : decode cX2_parse 5 = .ok (.bipush 8, 2) := by decide +kernel
theorem dX2_parse_7 : decode cX2_parse 7 = .ok (.invokestatic 34, 3) := by decide +kernel
theorem dX2_parse_10 : decode cX2_parse 10 = .ok (.putfield 24, 3) := by decide +kernel
theorem dX2_parse_13 : decode cX2_parse 13 = .ok (.iconst 0, 1) := by decide +kernel
theorem dX2_parse_14 : decode cX2_parse 14 = .ok (.istore_n 2, 1) := by decide +kernel
theorem dX2_parse_15 : decode cX2_parse 15 = .ok (.iload_n 2, 1) := by decide +kernel
theorem dX2_parse_16 : decode cX2_parse 16 = .ok (.aload_n 0, 1) := by decide +kernel
theorem dX2_parse_17 : decode cX2_parse 17 = .ok (.getfield 24, 3) := by decide +kernel
theorem dX2_parse_20 : decode cX2_parse 20 = .ok (.if_icmp .ge 77, 3) := by decide +kernel
theorem dX2_parse_23 : decode cX2_parse 23 = .ok (.aload_n 0, 1) := by decide +kernel
theorem dX2_parse_24 : decode cX2_parse 24 = .ok (.getfield 9, 3) := by decide +kernel
theorem dX2_parse_27 : decode cX2_parse 27 = .ok (.iload_n 2, 1) := by decide +kernel
theorem dX2_parse_28 : decode cX2_parse 28 = .ok (.bipush 10, 2) := by decide +kernel
theorem dX2_parse_30 : decode cX2_parse 30 = .ok (.aload_n 1, 1) := by decide +kernel
theorem dX2_parse_31 : decode cX2_parse 31 = .ok (.iload_n 2, 1) := by decide +kernel
theorem dX2_parse_32 : decode cX2_parse 32 = .ok (.iconst 0, 1) := by decide +kernel
theorem dX2_parse_33 : decode cX2_parse 33 = .ok (.invokevirtual 40, 3) := by decide +kernel
theorem dX2_parse_36 : decode cX2_parse 36 = .ok (.imul, 1) := by decide +kernel
theorem dX2_parse_37 : decode cX2_parse 37 = .ok (.aload_n 1, 1) := by decide +kernel
theorem dX2_parse_38 : decode cX2_parse 38 = .ok (.iload_n 2, 1) := by decide +kernel
theorem dX2_parse_39 : decode cX2_parse 39 = .ok (.iconst 1, 1) := by decide +kernel
theorem dX2_parse_40 : decode cX2_parse 40 = .ok (.invokevirtual 40, 3) := by decide +kernel
theorem dX2_parse_43 : decode cX2_parse 43 = .ok (.iadd, 1) := by decide +kernel
theorem dX2_parse_44 : decode cX2_parse 44 = .ok (.iastore, 1) := by decide +kernel
theorem dX2_parse_45 : decode cX2_parse 45 = .ok (.aload_n 0, 1) := by decide +kernel
theorem dX2_parse_46 : decode cX2_parse 46 = .ok (.getfield 15, 3) := by decide +kernel
theorem dX2_parse_49 : decode cX2_parse 49 = .ok (.iload_n 2, 1) := by decide +kernel
theorem dX2_parse_50 : decode cX2_parse 50 = .ok (.aload_n 1, 1) := by decide +kernel
theorem dX2_parse_51 : decode cX2_parse 51 = .ok (.iload_n 2, 1) := by decide +kernel
theorem dX2_parse_52 : decode cX2_parse 52 = .ok (.iconst 2, 1) := by decide +kernel
theorem dX2_parse_53 : decode cX2_parse 53 = .ok (.invokevirtual 40, 3) := by decide +kernel
theorem dX2_parse_56 : decode cX2_parse 56 = .ok (.iastore, 1) := by decide +kernel
theorem dX2_parse_57 : decode cX2_parse 57 = .ok (.aload_n 0, 1) := by decide +kernel
theorem dX2_parse_58 : decode cX2_parse 58 = .ok (.getfield 18, 3) := by decide +kernel
theorem dX2_parse_61 : decode cX2_parse 61 = .ok (.iload_n 2, 1) := by decide +kernel
theorem dX2_parse_62 : decode cX2_parse 62 = .ok (.aload_n 1, 1) := by decide +kernel
theorem dX2_parse_63 : decode cX2_parse 63 = .ok (.iload_n 2, 1) := by decide +kernel
theorem dX2_parse_64 : decode cX2_parse 64 = .ok (.iconst 3, 1) := by decide +kernel
theorem dX2_parse_65 : decode cX2_parse 65 = .ok (.invokevirtual 43, 3) := by decide +kernel
theorem dX2_parse_68 : decode cX2_parse 68 = .ok (.bipush 100, 2) := by decide +kernel
theorem dX2_parse_70 : decode cX2_parse 70 = .ok (.if_icmp .ne 7, 3) := by decide +kernel
theorem dX2_parse_73 : decode cX2_parse 73 = .ok (.iconst 1, 1) := by decide +kernel
theorem dX2_parse_74 : decode cX2_parse 74 = .ok (.goto 4, 3) := by decide +kernel
theorem dX2_parse_77 : decode cX2_parse 77 = .ok (.iconst 0, 1) := by decide +kernel
theorem dX2_parse_78 : decode cX2_parse 78 = .ok (.iastore, 1) := by decide +kernel
theorem dX2_parse_79 : decode cX2_parse 79 = .ok (.aload_n 0, 1) := by decide +kernel
theorem dX2_parse_80 : decode cX2_parse 80 = .ok (.getfield 21, 3) := by decide +kernel
theorem dX2_parse_83 : decode cX2_parse 83 = .ok (.iload_n 2, 1) := by decide +kernel
theorem dX2_parse_84 : decode cX2_parse 84 = .ok (.aload_n 1, 1) := by decide +kernel
theorem dX2_parse_85 : decode cX2_parse 85 = .ok (.iload_n 2, 1) := by decide +kernel
theorem dX2_parse_86 : decode cX2_parse 86 = .ok (.iconst 4, 1) := by decide +kernel
theorem dX2_parse_87 : decode cX2_parse 87 = .ok (.invokevirtual 40, 3) := by decide +kernel
theorem dX2_parse_90 : decode cX2_parse 90 = .ok (.iastore, 1) := by decide +kernel
theorem dX2_parse_91 : decode cX2_parse 91 = .ok (.iinc 2 1, 3) := by decide +kernel
theorem dX2_parse_94 : decode cX2_parse 94 = .ok (.goto (-79), 3) := by decide +kernel
theorem dX2_parse_97 : decode cX2_parse 97 = .ok (.return_, 1) := by decide +kernel
theorem dX3_init_0 : decode cX3_init 0 = .ok (.aload_n 0, 1) := by decide +kernel
theorem dX3_init_1 : decode cX3_init 1 = .ok (.invokespecial 3, 3) := by decide +kernel
theorem dX3_init_4 : decode cX3_init 4 = .ok (.aload_n 0, 1) := by decide +kernel
theorem dX3_init_5 : decode cX3_init 5 = .ok (.iconst (-1), 1) := by decide +kernel
theorem dX3_init_6 : decode cX3_init 6 = .ok (.putfield 9, 3) := by decide +kernel
theorem dX3_init_9 : decode cX3_init 9 = .ok (.aload_n 0, 1) := by decide +kernel
theorem dX3_init_10 : decode cX3_init 10 = .ok (.iconst 0, 1) := by decide +kernel
theorem dX3_init_11 : decode cX3_init 11 = .ok (.putfield 15, 3) := by decide +kernel
theorem dX3_init_14 : decode cX3_init 14 = .ok (.aload_n 0, 1) := by decide +kernel
theorem dX3_init_15 : decode cX3_init 15 = .ok (.iconst 0, 1) := by decide +kernel
theorem dX3_init_16 : decode cX3_init 16 = .ok (.putfield 18, 3) := by decide +kernel
theorem dX3_init_19 : decode cX3_init 19 = .ok (.return_, 1) := by decide +kernel
theorem dX3_clear_0 : decode cX3_clear 0 = .ok (.aload_n 0, 1) := by decide +kernel
theorem dX3_clear_1 : decode cX3_clear 1 = .ok (.iconst (-1), 1) := by decide +kernel
theorem dX3_clear_2 : decode cX3_clear 2 = .ok (.putfield 9, 3) := by decide +kernel
theorem dX3_clear_5 : decode cX3_clear 5 = .ok (.aload_n 0, 1) := by decide +kernel
theorem dX3_clear_6 : decode cX3_clear 6 = .ok (.iconst 0, 1) := by decide +kernel
theorem dX3_clear_7 : decode cX3_clear 7 = .ok (.putfield 15, 3) := by decide +kernel
theorem dX3_clear_10 : decode cX3_clear 10 = .ok (.aload_n 0, 1) := by decide +kernel
theorem dX3_clear_11 : decode cX3_clear 11 = .ok (.iconst 0, 1) := by decide +kernel
theorem dX3_clear_12 : decode cX3_clear 12 = .ok (.putfield 18, 3) := by decide +kernel
theorem dX3_clear_15 : decode cX3_clear 15 = .ok (.return_, 1) := by decide +kernel
theorem dX3_weigh_0 : decode cX3_weigh 0 = .ok (.iload_n 2, 1) := by decide +kernel
theorem dX3_weigh_1 : decode cX3_weigh 1 = .ok (.aload_n 0, 1) := by decide +kernel
theorem dX3_weigh_2 : decode cX3_weigh 2 = .ok (.getfield 15, 3) := by decide +kernel
theorem dX3_weigh_5 : decode cX3_weigh 5 = .ok (.if_icmp .lt 19, 3) := by decide +kernel
theorem dX3_weigh_8 : decode cX3_weigh 8 = .ok (.iload_n 2, 1) := by decide +kernel
theorem dX3_weigh_9 : decode cX3_weigh 9 = .ok (.aload_n 0, 1) := by decide +kernel
theorem dX3_weigh_10 : decode cX3_weigh 10 = .ok (.getfield 15, 3) := by decide +kernel
theorem dX3_weigh_13 : decode cX3_weigh 13 = .ok (.if_icmp .ne 15, 3) := by decide +kernel
theorem dX3_weigh_16 : decode cX3_weigh 16 = .ok (.iload_n 3, 1) := by decide +kernel
theorem dX3_weigh_17 : decode cX3_weigh 17 = .ok (.aload_n 0, 1) := by decide +kernel
theorem dX3_weigh_18 : decode cX3_weigh 18 = .ok (.getfield 18, 3) := by decide +kernel
theorem dX3_weigh_21 : decode cX3_weigh 21 = .ok (.if_icmp .le 7, 3) := by decide +kernel
theorem dX3_weigh_24 : decode cX3_weigh 24 = .ok (.iconst 1, 1) := by decide +kernel
theorem dX3_weigh_25 : decode cX3_weigh 25 = .ok (.goto 4, 3) := by decide +kernel
theorem dX3_weigh_28 : decode cX3_weigh 28 = .ok (.iconst 0, 1) := by decide +kernel
theorem dX3_weigh_29 : decode cX3_weigh 29 = .ok (.istore 4, 2) := by decide +kernel
theorem dX3_weigh_31 : decode cX3_weigh 31 = .ok (.aload_n 0, 1) := by decide +kernel
theorem dX3_weigh_32 : decode cX3_weigh 32 = .ok (.getfield 9, 3) := by decide +kernel
theorem dX3_weigh_35 : decode cX3_weigh 35 = .ok (.iconst (-1), 1) := by decide +kernel
theorem dX3_weigh_36 : decode cX3_weigh 36 = .ok (.if_icmp .eq 8, 3) := by decide +kernel
theorem dX3_weigh_39 : decode cX3_weigh 39 = .ok (.iload 4, 2) := by decide +kernel
theorem dX3_weigh_41 : decode cX3_weigh 41 = .ok (.ifCond .eq 18, 3) := by decide +kernel
theorem dX3_weigh_44 : decode cX3_weigh 44 = .ok (.aload_n 0, 1) := by decide +kernel
theorem dX3_weigh_45 : decode cX3_weigh 45 = .ok (.iload_n 1, 1) := by decide +kernel
theorem dX3_weigh_46 : decode cX3_weigh 46 = .ok (.putfield 9, 3) := by decide +kernel
theorem dX3_weigh_49 : decode cX3_weigh 49 = .ok (.aload_n 0, 1) := by decide +kernel
theorem dX3_weigh_50 : decode cX3_weigh 50 = .ok (.iload_n 2, 1) := by decide +kernel
theorem dX3_weigh_51 : decode cX3_weigh 51 = .ok (.putfield 15, 3) := by decide +kernel
theorem dX3_weigh_54 : decode cX3_weigh 54 = .ok (.aload_n 0, 1) := by decide +kernel
theorem dX3_weigh_55 : decode cX3_weigh 55 = .ok (.iload_n 3, 1) := by decide +kernel
theorem dX3_weigh_56 : decode cX3_weigh 56 = .ok (.putfield 18, 3) := by decide +kernel
theorem dX3_weigh_59 : decode cX3_weigh 59 = .ok (.return_, 1) := by decide +kernel
theorem dX4_init_0 : decode cX4_init 0 = .ok (.aload_n 0, 1) := by decide +kernel
theorem dX4_init_1 : decode cX4_init 1 = .ok (.invokespecial 3, 3) := by decide +kernel
theorem dX4_init_4 : decode cX4_init 4 = .ok (.aload_n 0, 1) := by decide +kernel
theorem dX4_init_5 : decode cX4_init 5 = .ok (.bipush 8, 2) := by decide +kernel
theorem dX4_init_7 : decode cX4_init 7 = .ok (.newarray .int, 2) := by decide +kernel
theorem dX4_init_9 : decode cX4_init 9 = .ok (.putfield 9, 3) := by decide +kernel
theorem dX4_init_12 : decode cX4_init 12 = .ok (.aload_n 0, 1) := by decide +kernel
theorem dX4_init_13 : decode cX4_init 13 = .ok (.bipush 8, 2) := by decide +kernel
theorem dX4_init_15 : decode cX4_init 15 = .ok (.newarray .int, 2) := by decide +kernel
theorem dX4_init_17 : decode cX4_init 17 = .ok (.putfield 15, 3) := by decide +kernel
theorem dX4_init_20 : decode cX4_init 20 = .ok (.aload_n 0, 1) := by decide +kernel
theorem dX4_init_21 : decode cX4_init 21 = .ok (.bipush 8, 2) := by decide +kernel
theorem dX4_init_23 : decode cX4_init 23 = .ok (.newarray .int, 2) := by decide +kernel
theorem dX4_init_25 : decode cX4_init 25 = .ok (.putfield 18, 3) := by decide +kernel
theorem dX4_init_28 : decode cX4_init 28 = .ok (.aload_n 0, 1) := by decide +kernel
theorem dX4_init_29 : decode cX4_init 29 = .ok (.bipush 8, 2) := by decide +kernel
theorem dX4_init_31 : decode cX4_init 31 = .ok (.newarray .int, 2) := by decide +kernel
theorem dX4_init_33 : decode cX4_init 33 = .ok (.putfield 21, 3) := by decide +kernel
theorem dX4_init_36 : decode cX4_init 36 = .ok (.aload_n 0, 1) := by decide +kernel
theorem dX4_init_37 : decode cX4_init 37 = .ok (.iconst 0, 1) := by decide +kernel
theorem dX4_init_38 : decode cX4_init 38 = .ok (.putfield 24, 3) := by decide +kernel
theorem dX4_init_41 : decode cX4_init 41 = .ok (.aload_n 0, 1) := by decide +kernel
theorem dX4_init_42 : decode cX4_init 42 = .ok (.iconst 0, 1) := by decide +kernel
theorem dX4_init_43 : decode cX4_init 43 = .ok (.putfield 28, 3) := by decide +kernel
theorem dX4_init_46 : decode cX4_init 46 = .ok (.aload_n 0, 1) := by decide +kernel
theorem dX4_init_47 : decode cX4_init 47 = .ok (.iconst 0, 1) := by decide +kernel
theorem dX4_init_48 : decode cX4_init 48 = .ok (.putfield 31, 3) := by decide +kernel
theorem dX4_init_51 : decode cX4_init 51 = .ok (.return_, 1) := by decide +kernel
theorem dX4_parse_0 : decode cX4_parse 0 = .ok (.aload_n 0, 1) := by decide +kernel
theorem dX4_parse_1 : decode cX4_parse 1 = .ok (.aload_n 1, 1) := by decide +kernel
theorem dX4_parse_2 : decode cX4_parse 2 = .ok (.invokevirtual 34, 3) := by decide +kernel
theorem dX4_parse_5 : decode cX4_parse 5 = .ok (.bipush 8, 2) := by decide +kernel
theorem dX4_parse_7 : decode cX4_parse 7 = .ok (.invokestatic 40, 3) := by decide +kernel
theorem dX4_parse_10 : decode cX4_parse 10 = .ok (.putfield 24, 3) := by decide +kernel
theorem dX4_parse_13 : decode cX4_parse 13 = .ok (.iconst 0, 1) := by decide +kernel
theorem dX4_parse_14 : decode cX4_parse 14 = .ok (.istore_n 2, 1) := by decide +kernel
theorem dX4_parse_15 : decode cX4_parse 15 = .ok (.iload_n 2, 1) := by decide +kernel
theorem dX4_parse_16 : decode cX4_parse 16 = .ok (.aload_n 0, 1) := by decide +kernel
theorem dX4_parse_17 : decode cX4_parse 17 = .ok (.getfield 24, 3) := by decide +kernel
theorem dX4_parse_20 : decode cX4_parse 20 = .ok (.if_icmp .ge 74, 3) := by decide +kernel
theorem dX4_parse_23 : decode cX4_parse 23 = .ok (.aload_n 0, 1) := by decide +kernel
theorem dX4_parse_24 : decode cX4_parse 24 = .ok (.getfield 9, 3) := by decide +kernel
theorem dX4_parse_27 : decode cX4_parse 27 = .ok (.iload_n 2, 1) := by decide +kernel
theorem dX4_parse_28 : decode cX4_parse 28 = .ok (.aload_n 1, 1) := by decide +kernel
theorem dX4_parse_29 : decode cX4_parse 29 = .ok (.iload_n 2, 1) := by decide +kernel
theorem dX4_parse_30 : decode cX4_parse 30 = .ok (.iconst 0, 1) := by decide +kernel
theorem dX4_parse_31 : decode cX4_parse 31 = .ok (.invokevirtual 46, 3) := by decide +kernel
theorem dX4_parse_34 : decode cX4_parse 34 = .ok (.invokestatic 49, 3) := by decide +kernel
theorem dX4_parse_37 : decode cX4_parse 37 = .ok (.iastore, 1) := by decide +kernel
theorem dX4_parse_38 : decode cX4_parse 38 = .ok (.aload_n 0, 1) := by decide +kernel
theorem dX4_parse_39 : decode cX4_parse 39 = .ok (.getfield 15, 3) := by decide +kernel
theorem dX4_parse_42 : decode cX4_parse 42 = .ok (.iload_n 2, 1) := by decide +kernel
theorem dX4_parse_43 : decode cX4_parse 43 = .ok (.aload_n 1, 1) := by decide +kernel
theorem dX4_parse_44 : decode cX4_parse 44 = .ok (.iload_n 2, 1) := by decide +kernel
theorem dX4_parse_45 : decode cX4_parse 45 = .ok (.iconst 1, 1) := by decide +kernel
theorem dX4_parse_46 : decode cX4_parse 46 = .ok (.invokevirtual 53, 3) := by decide +kernel
theorem dX4_parse_49 : decode cX4_parse 49 = .ok (.iastore, 1) := by decide +kernel
theorem dX4_parse_50 : decode cX4_parse 50 = .ok (.aload_n 0, 1) := by decide +kernel
theorem dX4_parse_51 : decode cX4_parse 51 = .ok (.getfield 18, 3) := by decide +kernel
theorem dX4_parse_54 : decode cX4_parse 54 = .ok (.iload_n 2, 1) := by decide +kernel
theorem dX4_parse_55 : decode cX4_parse 55 = .ok (.aload_n 1, 1) := by decide +kernel
theorem dX4_parse_56 : decode cX4_parse 56 = .ok (.iload_n 2, 1) := by decide +kernel
theorem dX4_parse_57 : decode cX4_parse 57 = .ok (.iconst 2, 1) := by decide +kernel
theorem dX4_parse_58 : decode cX4_parse 58 = .ok (.invokevirtual 53, 3) := by decide +kernel
theorem dX4_parse_61 : decode cX4_parse 61 = .ok (.iastore, 1) := by decide +kernel
theorem dX4_parse_62 : decode cX4_parse 62 = .ok (.aload_n 0, 1) := by decide +kernel
theorem dX4_parse_63 : decode cX4_parse 63 = .ok (.getfield 21, 3) := by decide +kernel
theorem dX4_parse_66 : decode cX4_parse 66 = .ok (.iload_n 2, 1) := by decide +kernel
theorem dX4_parse_67 : decode cX4_parse 67 = .ok (.aload_n 0, 1) := by decide +kernel
theorem dX4_parse_68 : decode cX4_parse 68 = .ok (.getfield 28, 3) := by decide +kernel
theorem dX4_parse_71 : decode cX4_parse 71 = .ok (.iconst 1, 1) := by decide +kernel
theorem dX4_parse_72 : decode cX4_parse 72 = .ok (.if_icmp .ne 14, 3) := by decide +kernel
theorem dX4_parse_75 : decode cX4_parse 75 = .ok (.aload_n 0, 1) := by decide +kernel
theorem dX4_parse_76 : decode cX4_parse 76 = .ok (.getfield 24, 3) := by decide +kernel
theorem dX4_parse_79 : decode cX4_parse 79 = .ok (.iconst 1, 1) := by decide +kernel
theorem dX4_parse_80 : decode cX4_parse 80 = .ok (.isub, 1) := by decide +kernel
theorem dX4_parse_81 : decode cX4_parse 81 = .ok (.iload_n 2, 1) := by decide +kernel
theorem dX4_parse_82 : decode cX4_parse 82 = .ok (.isub, 1) := by decide +kernel
theorem dX4_parse_83 : decode cX4_parse 83 = .ok (.goto 4, 3) := by decide +kernel
theorem dX4_parse_86 : decode cX4_parse 86 = .ok (.iload_n 2, 1) := by decide +kernel
theorem dX4_parse_87 : decode cX4_parse 87 = .ok (.iastore, 1) := by decide +kernel
theorem dX4_parse_88 : decode cX4_parse 88 = .ok (.iinc 2 1, 3) := by decide +kernel
theorem dX4_parse_91 : decode cX4_parse 91 = .ok (.goto (-76), 3) := by decide +kernel
theorem dX4_parse_94 : decode cX4_parse 94 = .ok (.return_, 1) := by decide +kernel
theorem dX4_takeFrom_0 : decode cX4_takeFrom 0 = .ok (.aload_n 0, 1) := by decide +kernel
theorem dX4_takeFrom_1 : decode cX4_takeFrom 1 = .ok (.aload_n 1, 1) := by decide +kernel
theorem dX4_takeFrom_2 : decode cX4_takeFrom 2 = .ok (.getfield 24, 3) := by decide +kernel
theorem dX4_takeFrom_5 : decode cX4_takeFrom 5 = .ok (.putfield 24, 3) := by decide +kernel
theorem dX4_takeFrom_8 : decode cX4_takeFrom 8 = .ok (.aload_n 0, 1) := by decide +kernel
theorem dX4_takeFrom_9 : decode cX4_takeFrom 9 = .ok (.aload_n 1, 1) := by decide +kernel
theorem dX4_takeFrom_10 : decode cX4_takeFrom 10 = .ok (.getfield 28, 3) := by decide +kernel
theorem dX4_takeFrom_13 : decode cX4_takeFrom 13 = .ok (.putfield 28, 3) := by decide +kernel
theorem dX4_takeFrom_16 : decode cX4_takeFrom 16 = .ok (.aload_n 0, 1) := by decide +kernel
theorem dX4_takeFrom_17 : decode cX4_takeFrom 17 = .ok (.aload_n 1, 1) := by decide +kernel
theorem dX4_takeFrom_18 : decode cX4_takeFrom 18 = .ok (.getfield 31, 3) := by decide +kernel
theorem dX4_takeFrom_21 : decode cX4_takeFrom 21 = .ok (.putfield 31, 3) := by decide +kernel
theorem dX4_takeFrom_24 : decode cX4_takeFrom 24 = .ok (.iconst 0, 1) := by decide +kernel
theorem dX4_takeFrom_25 : decode cX4_takeFrom 25 = .ok (.istore_n 2, 1) := by decide +kernel
theorem dX4_takeFrom_26 : decode cX4_takeFrom 26 = .ok (.iload_n 2, 1) := by decide +kernel
theorem dX4_takeFrom_27 : decode cX4_takeFrom 27 = .ok (.bipush 8, 2) := by decide +kernel
theorem dX4_takeFrom_29 : decode cX4_takeFrom 29 = .ok (.if_icmp .ge 57, 3) := by decide +kernel
theorem dX4_takeFrom_32 : decode cX4_takeFrom 32 = .ok (.aload_n 0, 1) := by decide +kernel
theorem dX4_takeFrom_33 : decode cX4_takeFrom 33 = .ok (.getfield 9, 3) := by decide +kernel
theorem dX4_takeFrom_36 : decode cX4_takeFrom 36 = .ok (.iload_n 2, 1) := by decide +kernel
theorem dX4_takeFrom_37 : decode cX4_takeFrom 37 = .ok (.aload_n 1, 1) := by decide +kernel
theorem dX4_takeFrom_38 : decode cX4_takeFrom 38 = .ok (.getfield 9, 3) := by decide +kernel
theorem dX4_takeFrom_41 : decode cX4_takeFrom 41 = .ok (.iload_n 2, 1) := by decide +kernel
theorem dX4_takeFrom_42 : decode cX4_takeFrom 42 = .ok (.iaload, 1) := by decide +kernel
theorem dX4_takeFrom_43 : decode cX4_takeFrom 43 = .ok (.iastore, 1) := by decide +kernel
theorem dX4_takeFrom_44 : decode cX4_takeFrom 44 = .ok (.aload_n 0, 1) := by decide +kernel
theorem dX4_takeFrom_45 : decode cX4_takeFrom 45 = .ok (.getfield 15, 3) := by decide +kernel
theorem dX4_takeFrom_48 : decode cX4_takeFrom 48 = .ok (.iload_n 2, 1) := by decide +kernel
theorem dX4_takeFrom_49 : decode cX4_takeFrom 49 = .ok (.aload_n 1, 1) := by decide +kernel
theorem dX4_takeFrom_50 : decode cX4_takeFrom 50 = .ok (.getfield 15, 3) := by decide +kernel
theorem dX4_takeFrom_53 : decode cX4_takeFrom 53 = .ok (.iload_n 2, 1) := by decide +kernel
theorem dX4_takeFrom_54 : decode cX4_takeFrom 54 = .ok (.iaload, 1) := by decide +kernel
theorem dX4_takeFrom_55 : decode cX4_takeFrom 55 = .ok (.iastore, 1) := by decide +kernel
theorem dX4_takeFrom_56 : decode cX4_takeFrom 56 = .ok (.aload_n 0, 1) := by decide +kernel
theorem dX4_takeFrom_57 : decode cX4_takeFrom 57 = .ok (.getfield 18, 3) := by decide +kernel
theorem dX4_takeFrom_60 : decode cX4_takeFrom 60 = .ok (.iload_n 2, 1) := by decide +kernel
theorem dX4_takeFrom_61 : decode cX4_takeFrom 61 = .ok (.aload_n 1, 1) := by decide +kernel
theorem dX4_takeFrom_62 : decode cX4_takeFrom 62 = .ok (.getfield 18, 3) := by decide +kernel
theorem dX4_takeFrom_65 : decode cX4_takeFrom 65 = .ok (.iload_n 2, 1) := by decide +kernel
theorem dX4_takeFrom_66 : decode cX4_takeFrom 66 = .ok (.iaload, 1) := by decide +kernel
theorem dX4_takeFrom_67 : decode cX4_takeFrom 67 = .ok (.iastore, 1) := by decide +kernel
theorem dX4_takeFrom_68 : decode cX4_takeFrom 68 = .ok (.aload_n 0, 1) := by decide +kernel
theorem dX4_takeFrom_69 : decode cX4_takeFrom 69 = .ok (.getfield 21, 3) := by decide +kernel
theorem dX4_takeFrom_72 : decode cX4_takeFrom 72 = .ok (.iload_n 2, 1) := by decide +kernel
theorem dX4_takeFrom_73 : decode cX4_takeFrom 73 = .ok (.aload_n 1, 1) := by decide +kernel
theorem dX4_takeFrom_74 : decode cX4_takeFrom 74 = .ok (.getfield 21, 3) := by decide +kernel
theorem dX4_takeFrom_77 : decode cX4_takeFrom 77 = .ok (.iload_n 2, 1) := by decide +kernel
theorem dX4_takeFrom_78 : decode cX4_takeFrom 78 = .ok (.iaload, 1) := by decide +kernel
theorem dX4_takeFrom_79 : decode cX4_takeFrom 79 = .ok (.iastore, 1) := by decide +kernel
theorem dX4_takeFrom_80 : decode cX4_takeFrom 80 = .ok (.iinc 2 1, 3) := by decide +kernel
theorem dX4_takeFrom_83 : decode cX4_takeFrom 83 = .ok (.goto (-57), 3) := by decide +kernel
theorem dX4_takeFrom_86 : decode cX4_takeFrom 86 = .ok (.return_, 1) := by decide +kernel
theorem dX4_moveFrom_0 : decode cX4_moveFrom 0 = .ok (.aload_n 1, 1) := by decide +kernel
theorem dX4_moveFrom_1 : decode cX4_moveFrom 1 = .ok (.iload_n 2, 1) := by decide +kernel
theorem dX4_moveFrom_2 : decode cX4_moveFrom 2 = .ok (.invokevirtual 56, 3) := by decide +kernel
theorem dX4_moveFrom_5 : decode cX4_moveFrom 5 = .ok (.istore 4, 2) := by decide +kernel
theorem dX4_moveFrom_7 : decode cX4_moveFrom 7 = .ok (.iconst 0, 1) := by decide +kernel
theorem dX4_moveFrom_8 : decode cX4_moveFrom 8 = .ok (.istore 5, 2) := by decide +kernel
theorem dX4_moveFrom_10 : decode cX4_moveFrom 10 = .ok (.iload 5, 2) := by decide +kernel
theorem dX4_moveFrom_12 : decode cX4_moveFrom 12 = .ok (.aload_n 0, 1) := by decide +kernel
theorem dX4_moveFrom_13 : decode cX4_moveFrom 13 = .ok (.getfield 24, 3) := by decide +kernel
theorem dX4_moveFrom_16 : decode cX4_moveFrom 16 = .ok (.if_icmp .ge 71, 3) := by decide +kernel
theorem dX4_moveFrom_19 : decode cX4_moveFrom 19 = .ok (.iload 5, 2) := by decide +kernel
theorem dX4_moveFrom_21 : decode cX4_moveFrom 21 = .ok (.iload_n 3, 1) := by decide +kernel
theorem dX4_moveFrom_22 : decode cX4_moveFrom 22 = .ok (.if_icmp .ne 14, 3) := by decide +kernel
theorem dX4_moveFrom_25 : decode cX4_moveFrom 25 = .ok (.aload_n 0, 1) := by decide +kernel
theorem dX4_moveFrom_26 : decode cX4_moveFrom 26 = .ok (.getfield 21, 3) := by decide +kernel
theorem dX4_moveFrom_29 : decode cX4_moveFrom 29 = .ok (.iload 5, 2) := by decide +kernel
theorem dX4_moveFrom_31 : decode cX4_moveFrom 31 = .ok (.iload_n 2, 1) := by decide +kernel
theorem dX4_moveFrom_32 : decode cX4_moveFrom 32 = .ok (.iastore, 1) := by decide +kernel
theorem dX4_moveFrom_33 : decode cX4_moveFrom 33 = .ok (.goto 48, 3) := by decide +kernel
theorem dX4_moveFrom_36 : decode cX4_moveFrom 36 = .ok (.iload 5, 2) := by decide +kernel
theorem dX4_moveFrom_38 : decode cX4_moveFrom 38 = .ok (.iload_n 3, 1) := by decide +kernel
theorem dX4_moveFrom_39 : decode cX4_moveFrom 39 = .ok (.if_icmp .ge 8, 3) := by decide +kernel
theorem dX4_moveFrom_42 : decode cX4_moveFrom 42 = .ok (.iload 5, 2) := by decide +kernel
theorem dX4_moveFrom_44 : decode cX4_moveFrom 44 = .ok (.goto 7, 3) := by decide +kernel
theorem dX4_moveFrom_47 : decode cX4_moveFrom 47 = .ok (.iload 5, 2) := by decide +kernel
theorem dX4_moveFrom_49 : decode cX4_moveFrom 49 = .ok (.iconst 1, 1) := by decide +kernel
theorem dX4_moveFrom_50 : decode cX4_moveFrom 50 = .ok (.isub, 1) := by decide +kernel
theorem dX4_moveFrom_51 : decode cX4_moveFrom 51 = .ok (.istore 6, 2) := by decide +kernel
theorem dX4_moveFrom_53 : decode cX4_moveFrom 53 = .ok (.aload_n 0, 1) := by decide +kernel
theorem dX4_moveFrom_54 : decode cX4_moveFrom 54 = .ok (.getfield 21, 3) := by decide +kernel
theorem dX4_moveFrom_57 : decode cX4_moveFrom 57 = .ok (.iload 5, 2) := by decide +kernel
theorem dX4_moveFrom_59 : decode cX4_moveFrom 59 = .ok (.aload_n 1, 1) := by decide +kernel
theorem dX4_moveFrom_60 : decode cX4_moveFrom 60 = .ok (.getfield 21, 3) := by decide +kernel
theorem dX4_moveFrom_63 : decode cX4_moveFrom 63 = .ok (.iload 6, 2) := by decide +kernel
theorem dX4_moveFrom_65 : decode cX4_moveFrom 65 = .ok (.iload 4, 2) := by decide +kernel
theorem dX4_moveFrom_67 : decode cX4_moveFrom 67 = .ok (.if_icmp .ge 8, 3) := by decide +kernel
theorem dX4_moveFrom_70 : decode cX4_moveFrom 70 = .ok (.iload 6, 2) := by decide +kernel
theorem dX4_moveFrom_72 : decode cX4_moveFrom 72 = .ok (.goto 7, 3) := by decide +kernel
theorem dX4_moveFrom_75 : decode cX4_moveFrom 75 = .ok (.iload 6, 2) := by decide +kernel
theorem dX4_moveFrom_77 : decode cX4_moveFrom 77 = .ok (.iconst 1, 1) := by decide +kernel
theorem dX4_moveFrom_78 : decode cX4_moveFrom 78 = .ok (.iadd, 1) := by decide +kernel
theorem dX4_moveFrom_79 : decode cX4_moveFrom 79 = .ok (.iaload, 1) := by decide +kernel
theorem dX4_moveFrom_80 : decode cX4_moveFrom 80 = .ok (.iastore, 1) := by decide +kernel
theorem dX4_moveFrom_81 : decode cX4_moveFrom 81 = .ok (.iinc 5 1, 3) := by decide +kernel
theorem dX4_moveFrom_84 : decode cX4_moveFrom 84 = .ok (.goto (-74), 3) := by decide +kernel
theorem dX4_moveFrom_87 : decode cX4_moveFrom 87 = .ok (.return_, 1) := by decide +kernel
theorem dX4_placeOf_0 : decode cX4_placeOf 0 = .ok (.iconst 0, 1) := by decide +kernel
theorem dX4_placeOf_1 : decode cX4_placeOf 1 = .ok (.istore_n 2, 1) := by decide +kernel
theorem dX4_placeOf_2 : decode cX4_placeOf 2 = .ok (.iload_n 2, 1) := by decide +kernel
theorem dX4_placeOf_3 : decode cX4_placeOf 3 = .ok (.aload_n 0, 1) := by decide +kernel
theorem dX4_placeOf_4 : decode cX4_placeOf 4 = .ok (.getfield 24, 3) := by decide +kernel
theorem dX4_placeOf_7 : decode cX4_placeOf 7 = .ok (.if_icmp .ge 21, 3) := by decide +kernel
theorem dX4_placeOf_10 : decode cX4_placeOf 10 = .ok (.aload_n 0, 1) := by decide +kernel
theorem dX4_placeOf_11 : decode cX4_placeOf 11 = .ok (.getfield 21, 3) := by decide +kernel
theorem dX4_placeOf_14 : decode cX4_placeOf 14 = .ok (.iload_n 2, 1) := by decide +kernel
theorem dX4_placeOf_15 : decode cX4_placeOf 15 = .ok (.iaload, 1) := by decide +kernel
theorem dX4_placeOf_16 : decode cX4_placeOf 16 = .ok (.iload_n 1, 1) := by decide +kernel
theorem dX4_placeOf_17 : decode cX4_placeOf 17 = .ok (.if_icmp .ne 5, 3) := by decide +kernel
theorem dX4_placeOf_20 : decode cX4_placeOf 20 = .ok (.iload_n 2, 1) := by decide +kernel
theorem dX4_placeOf_21 : decode cX4_placeOf 21 = .ok (.ireturn, 1) := by decide +kernel
theorem dX4_placeOf_22 : decode cX4_placeOf 22 = .ok (.iinc 2 1, 3) := by decide +kernel
theorem dX4_placeOf_25 : decode cX4_placeOf 25 = .ok (.goto (-23), 3) := by decide +kernel
theorem dX4_placeOf_28 : decode cX4_placeOf 28 = .ok (.iconst 0, 1) := by decide +kernel
theorem dX4_placeOf_29 : decode cX4_placeOf 29 = .ok (.ireturn, 1) := by decide +kernel
theorem dX4_isEmpty_0 : decode cX4_isEmpty 0 = .ok (.aload_n 0, 1) := by decide +kernel
theorem dX4_isEmpty_1 : decode cX4_isEmpty 1 = .ok (.getfield 31, 3) := by decide +kernel
theorem dX4_isEmpty_4 : decode cX4_isEmpty 4 = .ok (.iload_n 1, 1) := by decide +kernel
theorem dX4_isEmpty_5 : decode cX4_isEmpty 5 = .ok (.ishr, 1) := by decide +kernel
theorem dX4_isEmpty_6 : decode cX4_isEmpty 6 = .ok (.iconst 1, 1) := by decide +kernel
theorem dX4_isEmpty_7 : decode cX4_isEmpty 7 = .ok (.iand, 1) := by decide +kernel
theorem dX4_isEmpty_8 : decode cX4_isEmpty 8 = .ok (.ifCond .eq 7, 3) := by decide +kernel
theorem dX4_isEmpty_11 : decode cX4_isEmpty 11 = .ok (.iconst 1, 1) := by decide +kernel
theorem dX4_isEmpty_12 : decode cX4_isEmpty 12 = .ok (.goto 4, 3) := by decide +kernel
theorem dX4_isEmpty_15 : decode cX4_isEmpty 15 = .ok (.iconst 0, 1) := by decide +kernel
theorem dX4_isEmpty_16 : decode cX4_isEmpty 16 = .ok (.ireturn, 1) := by decide +kernel
theorem dX5_init_0 : decode cX5_init 0 = .ok (.aload_n 0, 1) := by decide +kernel
theorem dX5_init_1 : decode cX5_init 1 = .ok (.invokespecial 1, 3) := by decide +kernel
theorem dX5_init_4 : decode cX5_init 4 = .ok (.aload_n 0, 1) := by decide +kernel
theorem dX5_init_5 : decode cX5_init 5 = .ok (.sipush 240, 3) := by decide +kernel
theorem dX5_init_8 : decode cX5_init 8 = .ok (.newarray .int, 2) := by decide +kernel
theorem dX5_init_10 : decode cX5_init 10 = .ok (.putfield 9, 3) := by decide +kernel
theorem dX5_init_13 : decode cX5_init 13 = .ok (.aload_n 0, 1) := by decide +kernel
theorem dX5_init_14 : decode cX5_init 14 = .ok (.iconst 4, 1) := by decide +kernel
theorem dX5_init_15 : decode cX5_init 15 = .ok (.newarray .int, 2) := by decide +kernel
theorem dX5_init_17 : decode cX5_init 17 = .ok (.putfield 13, 3) := by decide +kernel
theorem dX5_init_20 : decode cX5_init 20 = .ok (.aload_n 0, 1) := by decide +kernel
theorem dX5_init_21 : decode cX5_init 21 = .ok (.iconst 4, 1) := by decide +kernel
theorem dX5_init_22 : decode cX5_init 22 = .ok (.newarray .int, 2) := by decide +kernel
theorem dX5_init_24 : decode cX5_init 24 = .ok (.dup, 1) := by decide +kernel
theorem dX5_init_25 : decode cX5_init 25 = .ok (.iconst 0, 1) := by decide +kernel
theorem dX5_init_26 : decode cX5_init 26 = .ok (.iconst (-1), 1) := by decide +kernel
theorem dX5_init_27 : decode cX5_init 27 = .ok (.iastore, 1) := by decide +kernel
theorem dX5_init_28 : decode cX5_init 28 = .ok (.dup, 1) := by decide +kernel
theorem dX5_init_29 : decode cX5_init 29 = .ok (.iconst 1, 1) := by decide +kernel
theorem dX5_init_30 : decode cX5_init 30 = .ok (.iconst (-1), 1) := by decide +kernel
theorem dX5_init_31 : decode cX5_init 31 = .ok (.iastore, 1) := by decide +kernel
theorem dX5_init_32 : decode cX5_init 32 = .ok (.dup, 1) := by decide +kernel
theorem dX5_init_33 : decode cX5_init 33 = .ok (.iconst 2, 1) := by decide +kernel
theorem dX5_init_34 : decode cX5_init 34 = .ok (.iconst (-1), 1) := by decide +kernel
theorem dX5_init_35 : decode cX5_init 35 = .ok (.iastore, 1) := by decide +kernel
theorem dX5_init_36 : decode cX5_init 36 = .ok (.dup, 1) := by decide +kernel
theorem dX5_init_37 : decode cX5_init 37 = .ok (.iconst 3, 1) := by decide +kernel
theorem dX5_init_38 : decode cX5_init 38 = .ok (.iconst (-1), 1) := by decide +kernel
theorem dX5_init_39 : decode cX5_init 39 = .ok (.iastore, 1) := by decide +kernel
theorem dX5_init_40 : decode cX5_init 40 = .ok (.putfield 16, 3) := by decide +kernel
theorem dX5_init_43 : decode cX5_init 43 = .ok (.return_, 1) := by decide +kernel
theorem dX5_isLost_0 : decode cX5_isLost 0 = .ok (.aload_n 0, 1) := by decide +kernel
theorem dX5_isLost_1 : decode cX5_isLost 1 = .ok (.getfield 16, 3) := by decide +kernel
theorem dX5_isLost_4 : decode cX5_isLost 4 = .ok (.iload_n 1, 1) := by decide +kernel
theorem dX5_isLost_5 : decode cX5_isLost 5 = .ok (.iaload, 1) := by decide +kernel
theorem dX5_isLost_6 : decode cX5_isLost 6 = .ok (.iconst (-1), 1) := by decide +kernel
theorem dX5_isLost_7 : decode cX5_isLost 7 = .ok (.if_icmp .ne 7, 3) := by decide +kernel
theorem dX5_isLost_10 : decode cX5_isLost 10 = .ok (.iconst 1, 1) := by decide +kernel
theorem dX5_isLost_11 : decode cX5_isLost 11 = .ok (.goto 4, 3) := by decide +kernel
theorem dX5_isLost_14 : decode cX5_isLost 14 = .ok (.iconst 0, 1) := by decide +kernel
theorem dX5_isLost_15 : decode cX5_isLost 15 = .ok (.ireturn, 1) := by decide +kernel
theorem dX5_start_0 : decode cX5_start 0 = .ok (.aload_n 0, 1) := by decide +kernel
theorem dX5_start_1 : decode cX5_start 1 = .ok (.getfield 13, 3) := by decide +kernel
theorem dX5_start_4 : decode cX5_start 4 = .ok (.iload_n 1, 1) := by decide +kernel
theorem dX5_start_5 : decode cX5_start 5 = .ok (.iload_n 2, 1) := by decide +kernel
theorem dX5_start_6 : decode cX5_start 6 = .ok (.iastore, 1) := by decide +kernel
theorem dX5_start_7 : decode cX5_start 7 = .ok (.aload_n 0, 1) := by decide +kernel
theorem dX5_start_8 : decode cX5_start 8 = .ok (.getfield 16, 3) := by decide +kernel
theorem dX5_start_11 : decode cX5_start 11 = .ok (.iload_n 1, 1) := by decide +kernel
theorem dX5_start_12 : decode cX5_start 12 = .ok (.iload_n 3, 1) := by decide +kernel
theorem dX5_start_13 : decode cX5_start 13 = .ok (.iastore, 1) := by decide +kernel
theorem dX5_start_14 : decode cX5_start 14 = .ok (.iconst 0, 1) := by decide +kernel
theorem dX5_start_15 : decode cX5_start 15 = .ok (.istore 4, 2) := by decide +kernel
theorem dX5_start_17 : decode cX5_start 17 = .ok (.iload 4, 2) := by decide +kernel
theorem dX5_start_19 : decode cX5_start 19 = .ok (.bipush 60, 2) := by decide +kernel
theorem dX5_start_21 : decode cX5_start 21 = .ok (.if_icmp .ge 22, 3) := by decide +kernel
theorem dX5_start_24 : decode cX5_start 24 = .ok (.aload_n 0, 1) := by decide +kernel
theorem dX5_start_25 : decode cX5_start 25 = .ok (.getfield 9, 3) := by decide +kernel
theorem dX5_start_28 : decode cX5_start 28 = .ok (.iload_n 1, 1) := by decide +kernel
theorem dX5_start_29 : decode cX5_start 29 = .ok (.bipush 60, 2) := by decide +kernel
theorem dX5_start_31 : decode cX5_start 31 = .ok (.imul, 1) := by decide +kernel
theorem dX5_start_32 : decode cX5_start 32 = .ok (.iload 4, 2) := by decide +kernel
theorem dX5_start_34 : decode cX5_start 34 = .ok (.iadd, 1) := by decide +kernel
theorem dX5_start_35 : decode cX5_start 35 = .ok (.iconst 0, 1) := by decide +kernel
theorem dX5_start_36 : decode cX5_start 36 = .ok (.iastore, 1) := by decide +kernel
theorem dX5_start_37 : decode cX5_start 37 = .ok (.iinc 4 1, 3) := by decide +kernel
theorem dX5_start_40 : decode cX5_start 40 = .ok (.goto (-23), 3) := by decide +kernel
theorem dX5_start_43 : decode cX5_start 43 = .ok (.return_, 1) := by decide +kernel
theorem dX5_item_0 : decode cX5_item 0 = .ok (.aload_n 0, 1) := by decide +kernel
theorem dX5_item_1 : decode cX5_item 1 = .ok (.getfield 9, 3) := by decide +kernel
theorem dX5_item_4 : decode cX5_item 4 = .ok (.iload_n 1, 1) := by decide +kernel
theorem dX5_item_5 : decode cX5_item 5 = .ok (.bipush 60, 2) := by decide +kernel
theorem dX5_item_7 : decode cX5_item 7 = .ok (.imul, 1) := by decide +kernel
theorem dX5_item_8 : decode cX5_item 8 = .ok (.iload_n 2, 1) := by decide +kernel
theorem dX5_item_9 : decode cX5_item 9 = .ok (.iadd, 1) := by decide +kernel
theorem dX5_item_10 : decode cX5_item 10 = .ok (.iaload, 1) := by decide +kernel
theorem dX5_item_11 : decode cX5_item 11 = .ok (.ireturn, 1) := by decide +kernel
theorem dX5_put_0 : decode cX5_put 0 = .ok (.iload_n 3, 1) := by decide +kernel
theorem dX5_put_1 : decode cX5_put 1 = .ok (.istore 4, 2) := by decide +kernel
theorem dX5_put_3 : decode cX5_put 3 = .ok (.aload_n 0, 1) := by decide +kernel
theorem dX5_put_4 : decode cX5_put 4 = .ok (.getfield 13, 3) := by decide +kernel
theorem dX5_put_7 : decode cX5_put 7 = .ok (.iload_n 1, 1) := by decide +kernel
theorem dX5_put_8 : decode cX5_put 8 = .ok (.iaload, 1) := by decide +kernel
theorem dX5_put_9 : decode cX5_put 9 = .ok (.ifCond .ne 10, 3) := by decide +kernel
theorem dX5_put_12 : decode cX5_put 12 = .ok (.iload_n 3, 1) := by decide +kernel
theorem dX5_put_13 : decode cX5_put 13 = .ok (.i2b, 1) := by decide +kernel
theorem dX5_put_14 : decode cX5_put 14 = .ok (.istore 4, 2) := by decide +kernel
theorem dX5_put_16 : decode cX5_put 16 = .ok (.goto 17, 3) := by decide +kernel
theorem dX5_put_19 : decode cX5_put 19 = .ok (.aload_n 0, 1) := by decide +kernel
theorem dX5_put_20 : decode cX5_put 20 = .ok (.getfield 13, 3) := by decide +kernel
theorem dX5_put_23 : decode cX5_put 23 = .ok (.iload_n 1, 1) := by decide +kernel
theorem dX5_put_24 : decode cX5_put 24 = .ok (.iaload, 1) := by decide +kernel
theorem dX5_put_25 : decode cX5_put 25 = .ok (.iconst 1, 1) := by decide +kernel
theorem dX5_put_26 : decode cX5_put 26 = .ok (.if_icmp .ne 7, 3) := by decide +kernel
theorem dX5_put_29 : decode cX5_put 29 = .ok (.iload_n 3, 1) := by decide +kernel
theorem dX5_put_30 : decode cX5_put 30 = .ok (.i2s, 1) := by decide +kernel
theorem dX5_put_31 : decode cX5_put 31 = .ok (.istore 4, 2) := by decide +kernel
theorem dX5_put_33 : decode cX5_put 33 = .ok (.aload_n 0, 1) := by decide +kernel
theorem dX5_put_34 : decode cX5_put 34 = .ok (.getfield 9, 3) := by decide +kernel
theorem dX5_put_37 : decode cX5_put 37 = .ok (.iload_n 1, 1) := by decide +kernel
theorem dX5_put_38 : decode cX5_put 38 = .ok (.bipush 60, 2) := by decide +kernel
theorem dX5_put_40 : decode cX5_put 40 = .ok (.imul, 1) := by decide +kernel
theorem dX5_put_41 : decode cX5_put 41 = .ok (.iload_n 2, 1) := by decide +kernel
theorem dX5_put_42 : decode cX5_put 42 = .ok (.iadd, 1) := by decide +kernel
theorem dX5_put_43 : decode cX5_put 43 = .ok (.iload 4, 2) := by decide +kernel
theorem dX5_put_45 : decode cX5_put 45 = .ok (.iastore, 1) := by decide +kernel
theorem dX5_put_46 : decode cX5_put 46 = .ok (.return_, 1) := by decide +kernel
theorem dX5_has_0 : decode cX5_has 0 = .ok (.iload_n 2, 1) := by decide +kernel
theorem dX5_has_1 : decode cX5_has 1 = .ok (.ifCond .lt 33, 3) := by decide +kernel
theorem dX5_has_4 : decode cX5_has 4 = .ok (.iload_n 3, 1) := by decide +kernel
theorem dX5_has_5 : decode cX5_has 5 = .ok (.ifCond .lt 29, 3) := by decide +kernel
theorem dX5_has_8 : decode cX5_has 8 = .ok (.iload_n 2, 1) := by decide +kernel
theorem dX5_has_9 : decode cX5_has 9 = .ok (.aload_n 0, 1) := by decide +kernel
theorem dX5_has_10 : decode cX5_has 10 = .ok (.getfield 16, 3) := by decide +kernel
theorem dX5_has_13 : decode cX5_has 13 = .ok (.iload_n 1, 1) := by decide +kernel
theorem dX5_has_14 : decode cX5_has 14 = .ok (.iaload, 1) := by decide +kernel
theorem dX5_has_15 : decode cX5_has 15 = .ok (.if_icmp .gt 19, 3) := by decide +kernel
theorem dX5_has_18 : decode cX5_has 18 = .ok (.iload_n 3, 1) := by decide +kernel
theorem dX5_has_19 : decode cX5_has 19 = .ok (.aload_n 0, 1) := by decide +kernel
theorem dX5_has_20 : decode cX5_has 20 = .ok (.getfield 16, 3) := by decide +kernel
theorem dX5_has_23 : decode cX5_has 23 = .ok (.iload_n 1, 1) := by decide +kernel
theorem dX5_has_24 : decode cX5_has 24 = .ok (.iaload, 1) := by decide +kernel
theorem dX5_has_25 : decode cX5_has 25 = .ok (.iload_n 2, 1) := by decide +kernel
theorem dX5_has_26 : decode cX5_has 26 = .ok (.isub, 1) := by decide +kernel
theorem dX5_has_27 : decode cX5_has 27 = .ok (.if_icmp .gt 7, 3) := by decide +kernel
theorem dX5_has_30 : decode cX5_has 30 = .ok (.iconst 1, 1) := by decide +kernel
theorem dX5_has_31 : decode cX5_has 31 = .ok (.goto 4, 3) := by decide +kernel
theorem dX5_has_34 : decode cX5_has 34 = .ok (.iconst 0, 1) := by decide +kernel
theorem dX5_has_35 : decode cX5_has 35 = .ok (.ireturn, 1) := by decide +kernel
theorem dX5_move_0 : decode cX5_move 0 = .ok (.aload_n 0, 1) := by decide +kernel
theorem dX5_move_1 : decode cX5_move 1 = .ok (.getfield 9, 3) := by decide +kernel
theorem dX5_move_4 : decode cX5_move 4 = .ok (.iload_n 1, 1) := by decide +kernel
theorem dX5_move_5 : decode cX5_move 5 = .ok (.bipush 60, 2) := by decide +kernel
theorem dX5_move_7 : decode cX5_move 7 = .ok (.imul, 1) := by decide +kernel
theorem dX5_move_8 : decode cX5_move 8 = .ok (.iload_n 2, 1) := by decide +kernel
theorem dX5_move_9 : decode cX5_move 9 = .ok (.iadd, 1) := by decide +kernel
theorem dX5_move_10 : decode cX5_move 10 = .ok (.aload_n 0, 1) := by decide +kernel
theorem dX5_move_11 : decode cX5_move 11 = .ok (.getfield 9, 3) := by decide +kernel
theorem dX5_move_14 : decode cX5_move 14 = .ok (.iload_n 3, 1) := by decide +kernel
theorem dX5_move_15 : decode cX5_move 15 = .ok (.bipush 60, 2) := by decide +kernel
theorem dX5_move_17 : decode cX5_move 17 = .ok (.imul, 1) := by decide +kernel
theorem dX5_move_18 : decode cX5_move 18 = .ok (.iload 4, 2) := by decide +kernel
theorem dX5_move_20 : decode cX5_move 20 = .ok (.iadd, 1) := by decide +kernel
theorem dX5_move_21 : decode cX5_move 21 = .ok (.iload 5, 2) := by decide +kernel
theorem dX5_move_23 : decode cX5_move 23 = .ok (.invokestatic 19, 3) := by decide +kernel
theorem dX5_move_26 : decode cX5_move 26 = .ok (.return_, 1) := by decide +kernel
theorem dX6_init_0 : decode cX6_init 0 = .ok (.aload_n 0, 1) := by decide +kernel
theorem dX6_init_1 : decode cX6_init 1 = .ok (.invokespecial 3, 3) := by decide +kernel
theorem dX6_init_4 : decode cX6_init 4 = .ok (.aload_n 0, 1) := by decide +kernel
theorem dX6_init_5 : decode cX6_init 5 = .ok (.bipush 8, 2) := by decide +kernel
theorem dX6_init_7 : decode cX6_init 7 = .ok (.newarray .int, 2) := by decide +kernel
theorem dX6_init_9 : decode cX6_init 9 = .ok (.putfield 9, 3) := by decide +kernel
theorem dX6_init_12 : decode cX6_init 12 = .ok (.aload_n 0, 1) := by decide +kernel
theorem dX6_init_13 : decode cX6_init 13 = .ok (.bipush 8, 2) := by decide +kernel
theorem dX6_init_15 : decode cX6_init 15 = .ok (.newarray .int, 2) := by decide +kernel
theorem dX6_init_17 : decode cX6_init 17 = .ok (.putfield 15, 3) := by decide +kernel
theorem dX6_init_20 : decode cX6_init 20 = .ok (.aload_n 0, 1) := by decide +kernel
theorem dX6_init_21 : decode cX6_init 21 = .ok (.iconst 0, 1) := by decide +kernel
theorem dX6_init_22 : decode cX6_init 22 = .ok (.putfield 18, 3) := by decide +kernel
theorem dX6_init_25 : decode cX6_init 25 = .ok (.return_, 1) := by decide +kernel
theorem dX6_allows_0 : decode cX6_allows 0 = .ok (.iload_n 1, 1) := by decide +kernel
theorem dX6_allows_1 : decode cX6_allows 1 = .ok (.ifCond .lt 24, 3) := by decide +kernel
theorem dX6_allows_4 : decode cX6_allows 4 = .ok (.iload_n 1, 1) := by decide +kernel
theorem dX6_allows_5 : decode cX6_allows 5 = .ok (.bipush 8, 2) := by decide +kernel
theorem dX6_allows_7 : decode cX6_allows 7 = .ok (.if_icmp .ge 18, 3) := by decide +kernel
theorem dX6_allows_10 : decode cX6_allows 10 = .ok (.iload_n 2, 1) := by decide +kernel
theorem dX6_allows_11 : decode cX6_allows 11 = .ok (.ifCond .lt 14, 3) := by decide +kernel
theorem dX6_allows_14 : decode cX6_allows 14 = .ok (.iload_n 2, 1) := by decide +kernel
theorem dX6_allows_15 : decode cX6_allows 15 = .ok (.sipush 999, 3) := by decide +kernel
theorem dX6_allows_18 : decode cX6_allows 18 = .ok (.if_icmp .gt 7, 3) := by decide +kernel
theorem dX6_allows_21 : decode cX6_allows 21 = .ok (.iconst 1, 1) := by decide +kernel
theorem dX6_allows_22 : decode cX6_allows 22 = .ok (.goto 4, 3) := by decide +kernel
theorem dX6_allows_25 : decode cX6_allows 25 = .ok (.iconst 0, 1) := by decide +kernel
theorem dX6_allows_26 : decode cX6_allows 26 = .ok (.ireturn, 1) := by decide +kernel
theorem dX6_add_0 : decode cX6_add 0 = .ok (.aload_n 0, 1) := by decide +kernel
theorem dX6_add_1 : decode cX6_add 1 = .ok (.getfield 18, 3) := by decide +kernel
theorem dX6_add_4 : decode cX6_add 4 = .ok (.bipush 8, 2) := by decide +kernel
theorem dX6_add_6 : decode cX6_add 6 = .ok (.if_icmp .ge 33, 3) := by decide +kernel
theorem dX6_add_9 : decode cX6_add 9 = .ok (.aload_n 0, 1) := by decide +kernel
theorem dX6_add_10 : decode cX6_add 10 = .ok (.getfield 9, 3) := by decide +kernel
theorem dX6_add_13 : decode cX6_add 13 = .ok (.aload_n 0, 1) := by decide +kernel
theorem dX6_add_14 : decode cX6_add 14 = .ok (.getfield 18, 3) := by decide +kernel
theorem dX6_add_17 : decode cX6_add 17 = .ok (.iload_n 1, 1) := by decide +kernel
theorem dX6_add_18 : decode cX6_add 18 = .ok (.iastore, 1) := by decide +kernel
theorem dX6_add_19 : decode cX6_add 19 = .ok (.aload_n 0, 1) := by decide +kernel
theorem dX6_add_20 : decode cX6_add 20 = .ok (.getfield 15, 3) := by decide +kernel
theorem dX6_add_23 : decode cX6_add 23 = .ok (.aload_n 0, 1) := by decide +kernel
theorem dX6_add_24 : decode cX6_add 24 = .ok (.getfield 18, 3) := by decide +kernel
theorem dX6_add_27 : decode cX6_add 27 = .ok (.iload_n 2, 1) := by decide +kernel
theorem dX6_add_28 : decode cX6_add 28 = .ok (.iastore, 1) := by decide +kernel
theorem dX6_add_29 : decode cX6_add 29 = .ok (.aload_n 0, 1) := by decide +kernel
theorem dX6_add_30 : decode cX6_add 30 = .ok (.dup, 1) := by decide +kernel
theorem dX6_add_31 : decode cX6_add 31 = .ok (.getfield 18, 3) := by decide +kernel
theorem dX6_add_34 : decode cX6_add 34 = .ok (.iconst 1, 1) := by decide +kernel
theorem dX6_add_35 : decode cX6_add 35 = .ok (.iadd, 1) := by decide +kernel
theorem dX6_add_36 : decode cX6_add 36 = .ok (.putfield 18, 3) := by decide +kernel
theorem dX6_add_39 : decode cX6_add 39 = .ok (.return_, 1) := by decide +kernel
theorem dX7_init_0 : decode cX7_init 0 = .ok (.aload_n 0, 1) := by decide +kernel
theorem dX7_init_1 : decode cX7_init 1 = .ok (.invokespecial 3, 3) := by decide +kernel
theorem dX7_init_4 : decode cX7_init 4 = .ok (.aload_n 0, 1) := by decide +kernel
theorem dX7_init_5 : decode cX7_init 5 = .ok (.iload_n 1, 1) := by decide +kernel
theorem dX7_init_6 : decode cX7_init 6 = .ok (.putfield 9, 3) := by decide +kernel
theorem dX7_init_9 : decode cX7_init 9 = .ok (.aload_n 0, 1) := by decide +kernel
theorem dX7_init_10 : decode cX7_init 10 = .ok (.iload_n 1, 1) := by decide +kernel
theorem dX7_init_11 : decode cX7_init 11 = .ok (.ifCond .eq 7, 3) := by decide +kernel
theorem dX7_init_14 : decode cX7_init 14 = .ok (.iconst 4, 1) := by decide +kernel
theorem dX7_init_15 : decode cX7_init 15 = .ok (.goto 5, 3) := by decide +kernel
theorem dX7_init_18 : decode cX7_init 18 = .ok (.bipush 6, 2) := by decide +kernel
theorem dX7_init_20 : decode cX7_init 20 = .ok (.putfield 15, 3) := by decide +kernel
theorem dX7_init_23 : decode cX7_init 23 = .ok (.aload_n 0, 1) := by decide +kernel
theorem dX7_init_24 : decode cX7_init 24 = .ok (.iload_n 1, 1) := by decide +kernel
theorem dX7_init_25 : decode cX7_init 25 = .ok (.ifCond .eq 8, 3) := by decide +kernel
theorem dX7_init_28 : decode cX7_init 28 = .ok (.bipush 31, 2) := by decide +kernel
theorem dX7_init_30 : decode cX7_init 30 = .ok (.goto 5, 3) := by decide +kernel
theorem dX7_init_33 : decode cX7_init 33 = .ok (.bipush 47, 2) := by decide +kernel
theorem dX7_init_35 : decode cX7_init 35 = .ok (.newarray .int, 2) := by decide +kernel
theorem dX7_init_37 : decode cX7_init 37 = .ok (.putfield 19, 3) := by decide +kernel
theorem dX7_init_40 : decode cX7_init 40 = .ok (.aload_n 0, 1) := by decide +kernel
theorem dX7_init_41 : decode cX7_init 41 = .ok (.iconst 0, 1) := by decide +kernel
theorem dX7_init_42 : decode cX7_init 42 = .ok (.putfield 23, 3) := by decide +kernel
theorem dX7_init_45 : decode cX7_init 45 = .ok (.return_, 1) := by decide +kernel
theorem dX7_firstFault_0 : decode cX7_firstFault 0 = .ok (.iconst 0, 1) := by decide +kernel
theorem dX7_firstFault_1 : decode cX7_firstFault 1 = .ok (.istore_n 1, 1) := by decide +kernel
theorem dX7_firstFault_2 : decode cX7_firstFault 2 = .ok (.iload_n 1, 1) := by decide +kernel
theorem dX7_firstFault_3 : decode cX7_firstFault 3 = .ok (.aload_n 0, 1) := by decide +kernel
theorem dX7_firstFault_4 : decode cX7_firstFault 4 = .ok (.getfield 23, 3) := by decide +kernel
theorem dX7_firstFault_7 : decode cX7_firstFault 7 = .ok (.if_icmp .ge 53, 3) := by decide +kernel
theorem dX7_firstFault_10 : decode cX7_firstFault 10 = .ok (.iload_n 1, 1) := by decide +kernel
theorem dX7_firstFault_11 : decode cX7_firstFault 11 = .ok (.aload_n 0, 1) := by decide +kernel
theorem dX7_firstFault_12 : decode cX7_firstFault 12 = .ok (.getfield 15, 3) := by decide +kernel
theorem dX7_firstFault_15 : decode cX7_firstFault 15 = .ok (.irem, 1) := by decide +kernel
theorem dX7_firstFault_16 : decode cX7_firstFault 16 = .ok (.istore_n 2, 1) := by decide +kernel
theorem dX7_firstFault_17 : decode cX7_firstFault 17 = .ok (.aload_n 0, 1) := by decide +kernel
theorem dX7_firstFault_18 : decode cX7_firstFault 18 = .ok (.getfield 9, 3) := by decide +kernel
theorem dX7_firstFault_21 : decode cX7_firstFault 21 = .ok (.ifCond .eq 16, 3) := by decide +kernel
theorem dX7_firstFault_24 : decode cX7_firstFault 24 = .ok (.iload_n 2, 1) := by decide +kernel
theorem dX7_firstFault_25 : decode cX7_firstFault 25 = .ok (.aload_n 0, 1) := by decide +kernel
theorem dX7_firstFault_26 : decode cX7_firstFault 26 = .ok (.getfield 19, 3) := by decide +kernel
theorem dX7_firstFault_29 : decode cX7_firstFault 29 = .ok (.iload_n 1, 1) := by decide +kernel
theorem dX7_firstFault_30 : decode cX7_firstFault 30 = .ok (.iaload, 1) := by decide +kernel
theorem dX7_firstFault_31 : decode cX7_firstFault 31 = .ok (.invokestatic 26, 3) := by decide +kernel
theorem dX7_firstFault_34 : decode cX7_firstFault 34 = .ok (.goto 13, 3) := by decide +kernel
theorem dX7_firstFault_37 : decode cX7_firstFault 37 = .ok (.iload_n 2, 1) := by decide +kernel
theorem dX7_firstFault_38 : decode cX7_firstFault 38 = .ok (.aload_n 0, 1) := by decide +kernel
theorem dX7_firstFault_39 : decode cX7_firstFault 39 = .ok (.getfield 19, 3) := by decide +kernel
theorem dX7_firstFault_42 : decode cX7_firstFault 42 = .ok (.iload_n 1, 1) := by decide +kernel
theorem dX7_firstFault_43 : decode cX7_firstFault 43 = .ok (.iaload, 1) := by decide +kernel
theorem dX7_firstFault_44 : decode cX7_firstFault 44 = .ok (.invokestatic 30, 3) := by decide +kernel
theorem dX7_firstFault_47 : decode cX7_firstFault 47 = .ok (.istore_n 3, 1) := by decide +kernel
theorem dX7_firstFault_48 : decode cX7_firstFault 48 = .ok (.iload_n 3, 1) := by decide +kernel
theorem dX7_firstFault_49 : decode cX7_firstFault 49 = .ok (.ifCond .ne 5, 3) := by decide +kernel
theorem dX7_firstFault_52 : decode cX7_firstFault 52 = .ok (.iload_n 1, 1) := by decide +kernel
theorem dX7_firstFault_53 : decode cX7_firstFault 53 = .ok (.ireturn, 1) := by decide +kernel
theorem dX7_firstFault_54 : decode cX7_firstFault 54 = .ok (.iinc 1 1, 3) := by decide +kernel
theorem dX7_firstFault_57 : decode cX7_firstFault 57 = .ok (.goto (-55), 3) := by decide +kernel
theorem dX7_firstFault_60 : decode cX7_firstFault 60 = .ok (.aload_n 0, 1) := by decide +kernel
theorem dX7_firstFault_61 : decode cX7_firstFault 61 = .ok (.getfield 23, 3) := by decide +kernel
theorem dX7_firstFault_64 : decode cX7_firstFault 64 = .ok (.ifCond .eq 21, 3) := by decide +kernel
theorem dX7_firstFault_67 : decode cX7_firstFault 67 = .ok (.aload_n 0, 1) := by decide +kernel
theorem dX7_firstFault_68 : decode cX7_firstFault 68 = .ok (.getfield 23, 3) := by decide +kernel
theorem dX7_firstFault_71 : decode cX7_firstFault 71 = .ok (.aload_n 0, 1) := by decide +kernel
theorem dX7_firstFault_72 : decode cX7_firstFault 72 = .ok (.getfield 15, 3) := by decide +kernel
theorem dX7_firstFault_75 : decode cX7_firstFault 75 = .ok (.irem, 1) := by decide +kernel
theorem dX7_firstFault_76 : decode cX7_firstFault 76 = .ok (.aload_n 0, 1) := by decide +kernel
theorem dX7_firstFault_77 : decode cX7_firstFault 77 = .ok (.getfield 15, 3) := by decide +kernel
theorem dX7_firstFault_80 : decode cX7_firstFault 80 = .ok (.iconst 1, 1) := by decide +kernel
theorem dX7_firstFault_81 : decode cX7_firstFault 81 = .ok (.isub, 1) := by decide +kernel
theorem dX7_firstFault_82 : decode cX7_firstFault 82 = .ok (.if_icmp .ne 7, 3) := by decide +kernel
theorem dX7_firstFault_85 : decode cX7_firstFault 85 = .ok (.iconst 1, 1) := by decide +kernel
theorem dX7_firstFault_86 : decode cX7_firstFault 86 = .ok (.goto 4, 3) := by decide +kernel
theorem dX7_firstFault_89 : decode cX7_firstFault 89 = .ok (.iconst 0, 1) := by decide +kernel
theorem dX7_firstFault_90 : decode cX7_firstFault 90 = .ok (.istore_n 1, 1) := by decide +kernel
theorem dX7_firstFault_91 : decode cX7_firstFault 91 = .ok (.iload_n 1, 1) := by decide +kernel
theorem dX7_firstFault_92 : decode cX7_firstFault 92 = .ok (.ifCond .eq 7, 3) := by decide +kernel
theorem dX7_firstFault_95 : decode cX7_firstFault 95 = .ok (.iconst (-1), 1) := by decide +kernel
theorem dX7_firstFault_96 : decode cX7_firstFault 96 = .ok (.goto 7, 3) := by decide +kernel
theorem dX7_firstFault_99 : decode cX7_firstFault 99 = .ok (.aload_n 0, 1) := by decide +kernel
theorem dX7_firstFault_100 : decode cX7_firstFault 100 = .ok (.getfield 23, 3) := by decide +kernel
theorem dX7_firstFault_103 : decode cX7_firstFault 103 = .ok (.ireturn, 1) := by decide +kernel
theorem dX7_things_0 : decode cX7_things 0 = .ok (.aload_n 0, 1) := by decide +kernel
theorem dX7_things_1 : decode cX7_things 1 = .ok (.invokevirtual 33, 3) := by decide +kernel
theorem dX7_things_4 : decode cX7_things 4 = .ok (.iconst (-1), 1) := by decide +kernel
theorem dX7_things_5 : decode cX7_things 5 = .ok (.if_icmp .ne 17, 3) := by decide +kernel
theorem dX7_things_8 : decode cX7_things 8 = .ok (.aload_n 0, 1) := by decide +kernel
theorem dX7_things_9 : decode cX7_things 9 = .ok (.getfield 23, 3) := by decide +kernel
theorem dX7_things_12 : decode cX7_things 12 = .ok (.iconst 1, 1) := by decide +kernel
theorem dX7_things_13 : decode cX7_things 13 = .ok (.iadd, 1) := by decide +kernel
theorem dX7_things_14 : decode cX7_things 14 = .ok (.aload_n 0, 1) := by decide +kernel
theorem dX7_things_15 : decode cX7_things 15 = .ok (.getfield 15, 3) := by decide +kernel
theorem dX7_things_18 : decode cX7_things 18 = .ok (.idiv, 1) := by decide +kernel
theorem dX7_things_19 : decode cX7_things 19 = .ok (.goto 4, 3) := by decide +kernel
theorem dX7_things_22 : decode cX7_things 22 = .ok (.iconst 0, 1) := by decide +kernel
theorem dX7_things_23 : decode cX7_things 23 = .ok (.ireturn, 1) := by decide +kernel
theorem dX7_byteOf_0 : decode cX7_byteOf 0 = .ok (.iload_n 1, 1) := by decide +kernel
theorem dX7_byteOf_1 : decode cX7_byteOf 1 = .ok (.aload_n 0, 1) := by decide +kernel
theorem dX7_byteOf_2 : decode cX7_byteOf 2 = .ok (.getfield 15, 3) := by decide +kernel
theorem dX7_byteOf_5 : decode cX7_byteOf 5 = .ok (.imul, 1) := by decide +kernel
theorem dX7_byteOf_6 : decode cX7_byteOf 6 = .ok (.iload_n 2, 1) := by decide +kernel
theorem dX7_byteOf_7 : decode cX7_byteOf 7 = .ok (.iadd, 1) := by decide +kernel
theorem dX7_byteOf_8 : decode cX7_byteOf 8 = .ok (.istore_n 3, 1) := by decide +kernel
theorem dX7_byteOf_9 : decode cX7_byteOf 9 = .ok (.iload_n 3, 1) := by decide +kernel
theorem dX7_byteOf_10 : decode cX7_byteOf 10 = .ok (.ifCond .lt 20, 3) := by decide +kernel
theorem dX7_byteOf_13 : decode cX7_byteOf 13 = .ok (.iload_n 3, 1) := by decide +kernel
theorem dX7_byteOf_14 : decode cX7_byteOf 14 = .ok (.aload_n 0, 1) := by decide +kernel
theorem dX7_byteOf_15 : decode cX7_byteOf 15 = .ok (.getfield 23, 3) := by decide +kernel
theorem dX7_byteOf_18 : decode cX7_byteOf 18 = .ok (.if_icmp .ge 12, 3) := by decide +kernel
theorem dX7_byteOf_21 : decode cX7_byteOf 21 = .ok (.aload_n 0, 1) := by decide +kernel
theorem dX7_byteOf_22 : decode cX7_byteOf 22 = .ok (.getfield 19, 3) := by decide +kernel
theorem dX7_byteOf_25 : decode cX7_byteOf 25 = .ok (.iload_n 3, 1) := by decide +kernel
theorem dX7_byteOf_26 : decode cX7_byteOf 26 = .ok (.iaload, 1) := by decide +kernel
theorem dX7_byteOf_27 : decode cX7_byteOf 27 = .ok (.goto 4, 3) := by decide +kernel
theorem dX7_byteOf_30 : decode cX7_byteOf 30 = .ok (.iconst 0, 1) := by decide +kernel
theorem dX7_byteOf_31 : decode cX7_byteOf 31 = .ok (.ireturn, 1) := by decide +kernel
theorem dX7_figureOf_0 : decode cX7_figureOf 0 = .ok (.aload_n 0, 1) := by decide +kernel
theorem dX7_figureOf_1 : decode cX7_figureOf 1 = .ok (.iload_n 1, 1) := by decide +kernel
theorem dX7_figureOf_2 : decode cX7_figureOf 2 = .ok (.iload_n 2, 1) := by decide +kernel
theorem dX7_figureOf_3 : decode cX7_figureOf 3 = .ok (.invokevirtual 37, 3) := by decide +kernel
theorem dX7_figureOf_6 : decode cX7_figureOf 6 = .ok (.bipush 48, 2) := by decide +kernel
theorem dX7_figureOf_8 : decode cX7_figureOf 8 = .ok (.isub, 1) := by decide +kernel
theorem dX7_figureOf_9 : decode cX7_figureOf 9 = .ok (.ireturn, 1) := by decide +kernel
theorem dX7_fitsHouse_0 : decode cX7_fitsHouse 0 = .ok (.iload_n 0, 1) := by decide +kernel
theorem dX7_fitsHouse_1 : decode cX7_fitsHouse 1 = .ok (.tableswitch 77 0 2 #[27, 41, 59], 27) := by decide +kernel
theorem dX7_fitsHouse_28 : decode cX7_fitsHouse 28 = .ok (.iload_n 1, 1) := by decide +kernel
theorem dX7_fitsHouse_29 : decode cX7_fitsHouse 29 = .ok (.invokestatic 41, 3) := by decide +kernel
theorem dX7_fitsHouse_32 : decode cX7_fitsHouse 32 = .ok (.iconst (-1), 1) := by decide +kernel
theorem dX7_fitsHouse_33 : decode cX7_fitsHouse 33 = .ok (.if_icmp .eq 7, 3) := by decide +kernel
theorem dX7_fitsHouse_36 : decode cX7_fitsHouse 36 = .ok (.iconst 1, 1) := by decide +kernel
theorem dX7_fitsHouse_37 : decode cX7_fitsHouse 37 = .ok (.goto 4, 3) := by decide +kernel
theorem dX7_fitsHouse_40 : decode cX7_fitsHouse 40 = .ok (.iconst 0, 1) := by decide +kernel
theorem dX7_fitsHouse_41 : decode cX7_fitsHouse 41 = .ok (.ireturn, 1) := by decide +kernel
theorem dX7_fitsHouse_42 : decode cX7_fitsHouse 42 = .ok (.iload_n 1, 1) := by decide +kernel
theorem dX7_fitsHouse_43 : decode cX7_fitsHouse 43 = .ok (.bipush 49, 2) := by decide +kernel
theorem dX7_fitsHouse_45 : decode cX7_fitsHouse 45 = .ok (.if_icmp .lt 13, 3) := by decide +kernel
theorem dX7_fitsHouse_48 : decode cX7_fitsHouse 48 = .ok (.iload_n 1, 1) := by decide +kernel
theorem dX7_fitsHouse_49 : decode cX7_fitsHouse 49 = .ok (.bipush 57, 2) := by decide +kernel
theorem dX7_fitsHouse_51 : decode cX7_fitsHouse 51 = .ok (.if_icmp .gt 7, 3) := by decide +kernel
theorem dX7_fitsHouse_54 : decode cX7_fitsHouse 54 = .ok (.iconst 1, 1) := by decide +kernel
theorem dX7_fitsHouse_55 : decode cX7_fitsHouse 55 = .ok (.goto 4, 3) := by decide +kernel
theorem dX7_fitsHouse_58 : decode cX7_fitsHouse 58 = .ok (.iconst 0, 1) := by decide +kernel
theorem dX7_fitsHouse_59 : decode cX7_fitsHouse 59 = .ok (.ireturn, 1) := by decide +kernel
theorem dX7_fitsHouse_60 : decode cX7_fitsHouse 60 = .ok (.iload_n 1, 1) := by decide +kernel
theorem dX7_fitsHouse_61 : decode cX7_fitsHouse 61 = .ok (.bipush 48, 2) := by decide +kernel
theorem dX7_fitsHouse_63 : decode cX7_fitsHouse 63 = .ok (.if_icmp .lt 13, 3) := by decide +kernel
theorem dX7_fitsHouse_66 : decode cX7_fitsHouse 66 = .ok (.iload_n 1, 1) := by decide +kernel
theorem dX7_fitsHouse_67 : decode cX7_fitsHouse 67 = .ok (.bipush 57, 2) := by decide +kernel
theorem dX7_fitsHouse_69 : decode cX7_fitsHouse 69 = .ok (.if_icmp .gt 7, 3) := by decide +kernel
theorem dX7_fitsHouse_72 : decode cX7_fitsHouse 72 = .ok (.iconst 1, 1) := by decide +kernel
theorem dX7_fitsHouse_73 : decode cX7_fitsHouse 73 = .ok (.goto 4, 3) := by decide +kernel
theorem dX7_fitsHouse_76 : decode cX7_fitsHouse 76 = .ok (.iconst 0, 1) := by decide +kernel
theorem dX7_fitsHouse_77 : decode cX7_fitsHouse 77 = .ok (.ireturn, 1) := by decide +kernel
theorem dX7_fitsHouse_78 : decode cX7_fitsHouse 78 = .ok (.iload_n 1, 1) := by decide +kernel
theorem dX7_fitsHouse_79 : decode cX7_fitsHouse 79 = .ok (.bipush 59, 2) := by decide +kernel
theorem dX7_fitsHouse_81 : decode cX7_fitsHouse 81 = .ok (.if_icmp .ne 7, 3) := by decide +kernel
theorem dX7_fitsHouse_84 : decode cX7_fitsHouse 84 = .ok (.iconst 1, 1) := by decide +kernel
theorem dX7_fitsHouse_85 : decode cX7_fitsHouse 85 = .ok (.goto 4, 3) := by decide +kernel
theorem dX7_fitsHouse_88 : decode cX7_fitsHouse 88 = .ok (.iconst 0, 1) := by decide +kernel
theorem dX7_fitsHouse_89 : decode cX7_fitsHouse 89 = .ok (.ireturn, 1) := by decide +kernel
theorem dX7_fitsGuest_0 : decode cX7_fitsGuest 0 = .ok (.iload_n 0, 1) := by decide +kernel
theorem dX7_fitsGuest_1 : decode cX7_fitsGuest 1 = .ok (.tableswitch 89 0 4 #[35, 35, 53, 71, 35], 35) := by decide +kernel
theorem dX7_fitsGuest_36 : decode cX7_fitsGuest 36 = .ok (.iload_n 1, 1) := by decide +kernel
theorem dX7_fitsGuest_37 : decode cX7_fitsGuest 37 = .ok (.bipush 48, 2) := by decide +kernel
theorem dX7_fitsGuest_39 : decode cX7_fitsGuest 39 = .ok (.if_icmp .lt 13, 3) := by decide +kernel
theorem dX7_fitsGuest_42 : decode cX7_fitsGuest 42 = .ok (.iload_n 1, 1) := by decide +kernel
theorem dX7_fitsGuest_43 : decode cX7_fitsGuest 43 = .ok (.bipush 57, 2) := by decide +kernel
theorem dX7_fitsGuest_45 : decode cX7_fitsGuest 45 = .ok (.if_icmp .gt 7, 3) := by decide +kernel
theorem dX7_fitsGuest_48 : decode cX7_fitsGuest 48 = .ok (.iconst 1, 1) := by decide +kernel
theorem dX7_fitsGuest_49 : decode cX7_fitsGuest 49 = .ok (.goto 4, 3) := by decide +kernel
theorem dX7_fitsGuest_52 : decode cX7_fitsGuest 52 = .ok (.iconst 0, 1) := by decide +kernel
theorem dX7_fitsGuest_53 : decode cX7_fitsGuest 53 = .ok (.ireturn, 1) := by decide +kernel
theorem dX7_fitsGuest_54 : decode cX7_fitsGuest 54 = .ok (.iload_n 1, 1) := by decide +kernel
theorem dX7_fitsGuest_55 : decode cX7_fitsGuest 55 = .ok (.bipush 48, 2) := by decide +kernel
theorem dX7_fitsGuest_57 : decode cX7_fitsGuest 57 = .ok (.if_icmp .lt 13, 3) := by decide +kernel
theorem dX7_fitsGuest_60 : decode cX7_fitsGuest 60 = .ok (.iload_n 1, 1) := by decide +kernel
theorem dX7_fitsGuest_61 : decode cX7_fitsGuest 61 = .ok (.bipush 55, 2) := by decide +kernel
theorem dX7_fitsGuest_63 : decode cX7_fitsGuest 63 = .ok (.if_icmp .gt 7, 3) := by decide +kernel
theorem dX7_fitsGuest_66 : decode cX7_fitsGuest 66 = .ok (.iconst 1, 1) := by decide +kernel
theorem dX7_fitsGuest_67 : decode cX7_fitsGuest 67 = .ok (.goto 4, 3) := by decide +kernel
theorem dX7_fitsGuest_70 : decode cX7_fitsGuest 70 = .ok (.iconst 0, 1) := by decide +kernel
theorem dX7_fitsGuest_71 : decode cX7_fitsGuest 71 = .ok (.ireturn, 1) := by decide +kernel
theorem dX7_fitsGuest_72 : decode cX7_fitsGuest 72 = .ok (.iload_n 1, 1) := by decide +kernel
theorem dX7_fitsGuest_73 : decode cX7_fitsGuest 73 = .ok (.bipush 117, 2) := by decide +kernel
theorem dX7_fitsGuest_75 : decode cX7_fitsGuest 75 = .ok (.if_icmp .eq 9, 3) := by decide +kernel
theorem dX7_fitsGuest_78 : decode cX7_fitsGuest 78 = .ok (.iload_n 1, 1) := by decide +kernel
theorem dX7_fitsGuest_79 : decode cX7_fitsGuest 79 = .ok (.bipush 100, 2) := by decide +kernel
theorem dX7_fitsGuest_81 : decode cX7_fitsGuest 81 = .ok (.if_icmp .ne 7, 3) := by decide +kernel
theorem dX7_fitsGuest_84 : decode cX7_fitsGuest 84 = .ok (.iconst 1, 1) := by decide +kernel
theorem dX7_fitsGuest_85 : decode cX7_fitsGuest 85 = .ok (.goto 4, 3) := by decide +kernel
theorem dX7_fitsGuest_88 : decode cX7_fitsGuest 88 = .ok (.iconst 0, 1) := by decide +kernel
theorem dX7_fitsGuest_89 : decode cX7_fitsGuest 89 = .ok (.ireturn, 1) := by decide +kernel
theorem dX7_fitsGuest_90 : decode cX7_fitsGuest 90 = .ok (.iload_n 1, 1) := by decide +kernel
theorem dX7_fitsGuest_91 : decode cX7_fitsGuest 91 = .ok (.bipush 59, 2) := by decide +kernel
theorem dX7_fitsGuest_93 : decode cX7_fitsGuest 93 = .ok (.if_icmp .ne 7, 3) := by decide +kernel
theorem dX7_fitsGuest_96 : decode cX7_fitsGuest 96 = .ok (.iconst 1, 1) := by decide +kernel
theorem dX7_fitsGuest_97 : decode cX7_fitsGuest 97 = .ok (.goto 4, 3) := by decide +kernel
theorem dX7_fitsGuest_100 : decode cX7_fitsGuest 100 = .ok (.iconst 0, 1) := by decide +kernel
theorem dX7_fitsGuest_101 : decode cX7_fitsGuest 101 = .ok (.ireturn, 1) := by decide +kernel
theorem dX7_kindOf_0 : decode cX7_kindOf 0 = .ok (.iload_n 0, 1) := by decide +kernel
theorem dX7_kindOf_1 : decode cX7_kindOf 1 = .ok (.tableswitch 55 112 119 #[47, 55, 55, 49, 55, 55, 53, 51], 47) := by decide +kernel
theorem dX7_kindOf_48 : decode cX7_kindOf 48 = .ok (.iconst 0, 1) := by decide +kernel
theorem dX7_kindOf_49 : decode cX7_kindOf 49 = .ok (.ireturn, 1) := by decide +kernel
theorem dX7_kindOf_50 : decode cX7_kindOf 50 = .ok (.iconst 1, 1) := by decide +kernel
theorem dX7_kindOf_51 : decode cX7_kindOf 51 = .ok (.ireturn, 1) := by decide +kernel
theorem dX7_kindOf_52 : decode cX7_kindOf 52 = .ok (.iconst 2, 1) := by decide +kernel
theorem dX7_kindOf_53 : decode cX7_kindOf 53 = .ok (.ireturn, 1) := by decide +kernel
theorem dX7_kindOf_54 : decode cX7_kindOf 54 = .ok (.iconst 3, 1) := by decide +kernel
theorem dX7_kindOf_55 : decode cX7_kindOf 55 = .ok (.ireturn, 1) := by decide +kernel
theorem dX7_kindOf_56 : decode cX7_kindOf 56 = .ok (.iconst (-1), 1) := by decide +kernel
theorem dX7_kindOf_57 : decode cX7_kindOf 57 = .ok (.ireturn, 1) := by decide +kernel
theorem dX8_init_0 : decode cX8_init 0 = .ok (.aload_n 0, 1) := by decide +kernel
theorem dX8_init_1 : decode cX8_init 1 = .ok (.invokespecial 3, 3) := by decide +kernel
theorem dX8_init_4 : decode cX8_init 4 = .ok (.aload_n 0, 1) := by decide +kernel
theorem dX8_init_5 : decode cX8_init 5 = .ok (.bipush 8, 2) := by decide +kernel
theorem dX8_init_7 : decode cX8_init 7 = .ok (.newarray .int, 2) := by decide +kernel
theorem dX8_init_9 : decode cX8_init 9 = .ok (.putfield 9, 3) := by decide +kernel
theorem dX8_init_12 : decode cX8_init 12 = .ok (.aload_n 0, 1) := by decide +kernel
theorem dX8_init_13 : decode cX8_init 13 = .ok (.iconst (-1), 1) := by decide +kernel
theorem dX8_init_14 : decode cX8_init 14 = .ok (.putfield 15, 3) := by decide +kernel
theorem dX8_init_17 : decode cX8_init 17 = .ok (.aload_n 0, 1) := by decide +kernel
theorem dX8_init_18 : decode cX8_init 18 = .ok (.iconst 0, 1) := by decide +kernel
theorem dX8_init_19 : decode cX8_init 19 = .ok (.putfield 19, 3) := by decide +kernel
theorem dX8_init_22 : decode cX8_init 22 = .ok (.aload_n 0, 1) := by decide +kernel
theorem dX8_init_23 : decode cX8_init 23 = .ok (.iconst 0, 1) := by decide +kernel
theorem dX8_init_24 : decode cX8_init 24 = .ok (.putfield 22, 3) := by decide +kernel
theorem dX8_init_27 : decode cX8_init 27 = .ok (.aload_n 0, 1) := by decide +kernel
theorem dX8_init_28 : decode cX8_init 28 = .ok (.iconst 0, 1) := by decide +kernel
theorem dX8_init_29 : decode cX8_init 29 = .ok (.putfield 25, 3) := by decide +kernel
theorem dX8_init_32 : decode cX8_init 32 = .ok (.aload_n 0, 1) := by decide +kernel
theorem dX8_init_33 : decode cX8_init 33 = .ok (.iconst 0, 1) := by decide +kernel
theorem dX8_init_34 : decode cX8_init 34 = .ok (.putfield 28, 3) := by decide +kernel
theorem dX8_init_37 : decode cX8_init 37 = .ok (.aload_n 0, 1) := by decide +kernel
theorem dX8_init_38 : decode cX8_init 38 = .ok (.iconst 0, 1) := by decide +kernel
theorem dX8_init_39 : decode cX8_init 39 = .ok (.putfield 31, 3) := by decide +kernel
theorem dX8_init_42 : decode cX8_init 42 = .ok (.return_, 1) := by decide +kernel
theorem dX8_go_0 : decode cX8_go 0 = .ok (.aload_n 0, 1) := by decide +kernel
theorem dX8_go_1 : decode cX8_go 1 = .ok (.aload_n 1, 1) := by decide +kernel
theorem dX8_go_2 : decode cX8_go 2 = .ok (.aload_n 2, 1) := by decide +kernel
theorem dX8_go_3 : decode cX8_go 3 = .ok (.iload_n 3, 1) := by decide +kernel
theorem dX8_go_4 : decode cX8_go 4 = .ok (.aload_n 2, 1) := by decide +kernel
theorem dX8_go_5 : decode cX8_go 5 = .ok (.getfield 35, 3) := by decide +kernel
theorem dX8_go_8 : decode cX8_go 8 = .ok (.iload_n 3, 1) := by decide +kernel
theorem dX8_go_9 : decode cX8_go 9 = .ok (.iaload, 1) := by decide +kernel
theorem dX8_go_10 : decode cX8_go 10 = .ok (.aload_n 2, 1) := by decide +kernel
theorem dX8_go_11 : decode cX8_go 11 = .ok (.getfield 40, 3) := by decide +kernel
theorem dX8_go_14 : decode cX8_go 14 = .ok (.iload_n 3, 1) := by decide +kernel
theorem dX8_go_15 : decode cX8_go 15 = .ok (.iaload, 1) := by decide +kernel
theorem dX8_go_16 : decode cX8_go 16 = .ok (.invokevirtual 43, 3) := by decide +kernel
theorem dX8_go_19 : decode cX8_go 19 = .ok (.return_, 1) := by decide +kernel
theorem dX8_goFrom_0 : decode cX8_goFrom 0 = .ok (.aload_n 0, 1) := by decide +kernel
theorem dX8_goFrom_1 : decode cX8_goFrom 1 = .ok (.aload_n 2, 1) := by decide +kernel
theorem dX8_goFrom_2 : decode cX8_goFrom 2 = .ok (.getfield 47, 3) := by decide +kernel
theorem dX8_goFrom_5 : decode cX8_goFrom 5 = .ok (.iload_n 3, 1) := by decide +kernel
theorem dX8_goFrom_6 : decode cX8_goFrom 6 = .ok (.iaload, 1) := by decide +kernel
theorem dX8_goFrom_7 : decode cX8_goFrom 7 = .ok (.invokevirtual 50, 3) := by decide +kernel
theorem dX8_goFrom_10 : decode cX8_goFrom 10 = .ok (.iload 4, 2) := by decide +kernel
theorem dX8_goFrom_12 : decode cX8_goFrom 12 = .ok (.istore 6, 2) := by decide +kernel
theorem dX8_goFrom_14 : decode cX8_goFrom 14 = .ok (.iconst 0, 1) := by decide +kernel
theorem dX8_goFrom_15 : decode cX8_goFrom 15 = .ok (.istore 7, 2) := by decide +kernel
theorem dX8_goFrom_17 : decode cX8_goFrom 17 = .ok (.iload 7, 2) := by decide +kernel
theorem dX8_goFrom_19 : decode cX8_goFrom 19 = .ok (.bipush 8, 2) := by decide +kernel
theorem dX8_goFrom_21 : decode cX8_goFrom 21 = .ok (.if_icmp .ge 113, 3) := by decide +kernel
theorem dX8_goFrom_24 : decode cX8_goFrom 24 = .ok (.aload_n 0, 1) := by decide +kernel
theorem dX8_goFrom_25 : decode cX8_goFrom 25 = .ok (.getfield 19, 3) := by decide +kernel
theorem dX8_goFrom_28 : decode cX8_goFrom 28 = .ok (.ifCond .le 106, 3) := by decide +kernel
theorem dX8_goFrom_31 : decode cX8_goFrom 31 = .ok (.iload 6, 2) := by decide +kernel
theorem dX8_goFrom_33 : decode cX8_goFrom 33 = .ok (.ifCond .lt 101, 3) := by decide +kernel
theorem dX8_goFrom_36 : decode cX8_goFrom 36 = .ok (.iload 6, 2) := by decide +kernel
theorem dX8_goFrom_38 : decode cX8_goFrom 38 = .ok (.aload_n 1, 1) := by decide +kernel
theorem dX8_goFrom_39 : decode cX8_goFrom 39 = .ok (.getfield 54, 3) := by decide +kernel
theorem dX8_goFrom_42 : decode cX8_goFrom 42 = .ok (.if_icmp .ge 92, 3) := by decide +kernel
theorem dX8_goFrom_45 : decode cX8_goFrom 45 = .ok (.aload_n 1, 1) := by decide +kernel
theorem dX8_goFrom_46 : decode cX8_goFrom 46 = .ok (.getfield 59, 3) := by decide +kernel
theorem dX8_goFrom_49 : decode cX8_goFrom 49 = .ok (.iload 6, 2) := by decide +kernel
theorem dX8_goFrom_51 : decode cX8_goFrom 51 = .ok (.iaload, 1) := by decide +kernel
theorem dX8_goFrom_52 : decode cX8_goFrom 52 = .ok (.istore 8, 2) := by decide +kernel
theorem dX8_goFrom_54 : decode cX8_goFrom 54 = .ok (.aload_n 0, 1) := by decide +kernel
theorem dX8_goFrom_55 : decode cX8_goFrom 55 = .ok (.dup, 1) := by decide +kernel
theorem dX8_goFrom_56 : decode cX8_goFrom 56 = .ok (.getfield 25, 3) := by decide +kernel
theorem dX8_goFrom_59 : decode cX8_goFrom 59 = .ok (.iconst 1, 1) := by decide +kernel
theorem dX8_goFrom_60 : decode cX8_goFrom 60 = .ok (.iadd, 1) := by decide +kernel
theorem dX8_goFrom_61 : decode cX8_goFrom 61 = .ok (.putfield 25, 3) := by decide +kernel
theorem dX8_goFrom_64 : decode cX8_goFrom 64 = .ok (.aload_n 0, 1) := by decide +kernel
theorem dX8_goFrom_65 : decode cX8_goFrom 65 = .ok (.dup, 1) := by decide +kernel
theorem dX8_goFrom_66 : decode cX8_goFrom 66 = .ok (.getfield 28, 3) := by decide +kernel
theorem dX8_goFrom_69 : decode cX8_goFrom 69 = .ok (.iconst 1, 1) := by decide +kernel
theorem dX8_goFrom_70 : decode cX8_goFrom 70 = .ok (.iload 8, 2) := by decide +kernel
theorem dX8_goFrom_72 : decode cX8_goFrom 72 = .ok (.ishl, 1) := by decide +kernel
theorem dX8_goFrom_73 : decode cX8_goFrom 73 = .ok (.ior, 1) := by decide +kernel
theorem dX8_goFrom_74 : decode cX8_goFrom 74 = .ok (.putfield 28, 3) := by decide +kernel
theorem dX8_goFrom_77 : decode cX8_goFrom 77 = .ok (.aload_n 1, 1) := by decide +kernel
theorem dX8_goFrom_78 : decode cX8_goFrom 78 = .ok (.iload 8, 2) := by decide +kernel
theorem dX8_goFrom_80 : decode cX8_goFrom 80 = .ok (.invokevirtual 62, 3) := by decide +kernel
theorem dX8_goFrom_83 : decode cX8_goFrom 83 = .ok (.ifCond .ne 29, 3) := by decide +kernel
theorem dX8_goFrom_86 : decode cX8_goFrom 86 = .ok (.aload_n 0, 1) := by decide +kernel
theorem dX8_goFrom_87 : decode cX8_goFrom 87 = .ok (.iload 8, 2) := by decide +kernel
theorem dX8_goFrom_89 : decode cX8_goFrom 89 = .ok (.aload_n 1, 1) := by decide +kernel
theorem dX8_goFrom_90 : decode cX8_goFrom 90 = .ok (.getfield 66, 3) := by decide +kernel
theorem dX8_goFrom_93 : decode cX8_goFrom 93 = .ok (.iload 8, 2) := by decide +kernel
theorem dX8_goFrom_95 : decode cX8_goFrom 95 = .ok (.iaload, 1) := by decide +kernel
theorem dX8_goFrom_96 : decode cX8_goFrom 96 = .ok (.aload_n 1, 1) := by decide +kernel
theorem dX8_goFrom_97 : decode cX8_goFrom 97 = .ok (.getfield 69, 3) := by decide +kernel
theorem dX8_goFrom_100 : decode cX8_goFrom 100 = .ok (.iload 8, 2) := by decide +kernel
theorem dX8_goFrom_102 : decode cX8_goFrom 102 = .ok (.iaload, 1) := by decide +kernel
theorem dX8_goFrom_103 : decode cX8_goFrom 103 = .ok (.aload_n 2, 1) := by decide +kernel
theorem dX8_goFrom_104 : decode cX8_goFrom 104 = .ok (.getfield 72, 3) := by decide +kernel
theorem dX8_goFrom_107 : decode cX8_goFrom 107 = .ok (.iload_n 3, 1) := by decide +kernel
theorem dX8_goFrom_108 : decode cX8_goFrom 108 = .ok (.iaload, 1) := by decide +kernel
theorem dX8_goFrom_109 : decode cX8_goFrom 109 = .ok (.invokevirtual 75, 3) := by decide +kernel
theorem dX8_goFrom_112 : decode cX8_goFrom 112 = .ok (.iload 6, 2) := by decide +kernel
theorem dX8_goFrom_114 : decode cX8_goFrom 114 = .ok (.iload 5, 2) := by decide +kernel
theorem dX8_goFrom_116 : decode cX8_goFrom 116 = .ok (.iconst 1, 1) := by decide +kernel
theorem dX8_goFrom_117 : decode cX8_goFrom 117 = .ok (.if_icmp .ne 7, 3) := by decide +kernel
theorem dX8_goFrom_120 : decode cX8_goFrom 120 = .ok (.iconst 1, 1) := by decide +kernel
theorem dX8_goFrom_121 : decode cX8_goFrom 121 = .ok (.goto 4, 3) := by decide +kernel
theorem dX8_goFrom_124 : decode cX8_goFrom 124 = .ok (.iconst (-1), 1) := by decide +kernel
theorem dX8_goFrom_125 : decode cX8_goFrom 125 = .ok (.iadd, 1) := by decide +kernel
theorem dX8_goFrom_126 : decode cX8_goFrom 126 = .ok (.istore 6, 2) := by decide +kernel
theorem dX8_goFrom_128 : decode cX8_goFrom 128 = .ok (.iinc 7 1, 3) := by decide +kernel
theorem dX8_goFrom_131 : decode cX8_goFrom 131 = .ok (.goto (-114), 3) := by decide +kernel
theorem dX8_goFrom_134 : decode cX8_goFrom 134 = .ok (.return_, 1) := by decide +kernel
theorem dX8_clear_0 : decode cX8_clear 0 = .ok (.iconst 0, 1) := by decide +kernel
theorem dX8_clear_1 : decode cX8_clear 1 = .ok (.istore_n 2, 1) := by decide +kernel
theorem dX8_clear_2 : decode cX8_clear 2 = .ok (.iload_n 2, 1) := by decide +kernel
theorem dX8_clear_3 : decode cX8_clear 3 = .ok (.bipush 8, 2) := by decide +kernel
theorem dX8_clear_5 : decode cX8_clear 5 = .ok (.if_icmp .ge 16, 3) := by decide +kernel
theorem dX8_clear_8 : decode cX8_clear 8 = .ok (.aload_n 0, 1) := by decide +kernel
theorem dX8_clear_9 : decode cX8_clear 9 = .ok (.getfield 9, 3) := by decide +kernel
theorem dX8_clear_12 : decode cX8_clear 12 = .ok (.iload_n 2, 1) := by decide +kernel
theorem dX8_clear_13 : decode cX8_clear 13 = .ok (.iconst 0, 1) := by decide +kernel
theorem dX8_clear_14 : decode cX8_clear 14 = .ok (.iastore, 1) := by decide +kernel
theorem dX8_clear_15 : decode cX8_clear 15 = .ok (.iinc 2 1, 3) := by decide +kernel
theorem dX8_clear_18 : decode cX8_clear 18 = .ok (.goto (-16), 3) := by decide +kernel
theorem dX8_clear_21 : decode cX8_clear 21 = .ok (.aload_n 0, 1) := by decide +kernel
theorem dX8_clear_22 : decode cX8_clear 22 = .ok (.iconst (-1), 1) := by decide +kernel
theorem dX8_clear_23 : decode cX8_clear 23 = .ok (.putfield 15, 3) := by decide +kernel
theorem dX8_clear_26 : decode cX8_clear 26 = .ok (.aload_n 0, 1) := by decide +kernel
theorem dX8_clear_27 : decode cX8_clear 27 = .ok (.iload_n 1, 1) := by decide +kernel
theorem dX8_clear_28 : decode cX8_clear 28 = .ok (.putfield 19, 3) := by decide +kernel
theorem dX8_clear_31 : decode cX8_clear 31 = .ok (.aload_n 0, 1) := by decide +kernel
theorem dX8_clear_32 : decode cX8_clear 32 = .ok (.iconst 0, 1) := by decide +kernel
theorem dX8_clear_33 : decode cX8_clear 33 = .ok (.putfield 22, 3) := by decide +kernel
theorem dX8_clear_36 : decode cX8_clear 36 = .ok (.aload_n 0, 1) := by decide +kernel
theorem dX8_clear_37 : decode cX8_clear 37 = .ok (.iconst 0, 1) := by decide +kernel
theorem dX8_clear_38 : decode cX8_clear 38 = .ok (.putfield 25, 3) := by decide +kernel
theorem dX8_clear_41 : decode cX8_clear 41 = .ok (.aload_n 0, 1) := by decide +kernel
theorem dX8_clear_42 : decode cX8_clear 42 = .ok (.iconst 0, 1) := by decide +kernel
theorem dX8_clear_43 : decode cX8_clear 43 = .ok (.putfield 28, 3) := by decide +kernel
theorem dX8_clear_46 : decode cX8_clear 46 = .ok (.aload_n 0, 1) := by decide +kernel
theorem dX8_clear_47 : decode cX8_clear 47 = .ok (.iconst 0, 1) := by decide +kernel
theorem dX8_clear_48 : decode cX8_clear 48 = .ok (.putfield 31, 3) := by decide +kernel
theorem dX8_clear_51 : decode cX8_clear 51 = .ok (.return_, 1) := by decide +kernel
theorem dX8_offer_0 : decode cX8_offer 0 = .ok (.aload_n 0, 1) := by decide +kernel
theorem dX8_offer_1 : decode cX8_offer 1 = .ok (.getfield 31, 3) := by decide +kernel
theorem dX8_offer_4 : decode cX8_offer 4 = .ok (.ifCond .eq 9, 3) := by decide +kernel
theorem dX8_offer_7 : decode cX8_offer 7 = .ok (.iload_n 3, 1) := by decide +kernel
theorem dX8_offer_8 : decode cX8_offer 8 = .ok (.iconst 2, 1) := by decide +kernel
theorem dX8_offer_9 : decode cX8_offer 9 = .ok (.iadd, 1) := by decide +kernel
theorem dX8_offer_10 : decode cX8_offer 10 = .ok (.goto 4, 3) := by decide +kernel
theorem dX8_offer_13 : decode cX8_offer 13 = .ok (.iload_n 3, 1) := by decide +kernel
theorem dX8_offer_14 : decode cX8_offer 14 = .ok (.istore 5, 2) := by decide +kernel
theorem dX8_offer_16 : decode cX8_offer 16 = .ok (.iload 5, 2) := by decide +kernel
theorem dX8_offer_18 : decode cX8_offer 18 = .ok (.aload_n 0, 1) := by decide +kernel
theorem dX8_offer_19 : decode cX8_offer 19 = .ok (.getfield 19, 3) := by decide +kernel
theorem dX8_offer_22 : decode cX8_offer 22 = .ok (.if_icmp .le 23, 3) := by decide +kernel
theorem dX8_offer_25 : decode cX8_offer 25 = .ok (.aload_n 0, 1) := by decide +kernel
theorem dX8_offer_26 : decode cX8_offer 26 = .ok (.getfield 22, 3) := by decide +kernel
theorem dX8_offer_29 : decode cX8_offer 29 = .ok (.iload 4, 2) := by decide +kernel
theorem dX8_offer_31 : decode cX8_offer 31 = .ok (.if_icmp .ge 14, 3) := by decide +kernel
theorem dX8_offer_34 : decode cX8_offer 34 = .ok (.aload_n 0, 1) := by decide +kernel
theorem dX8_offer_35 : decode cX8_offer 35 = .ok (.dup, 1) := by decide +kernel
theorem dX8_offer_36 : decode cX8_offer 36 = .ok (.getfield 22, 3) := by decide +kernel
theorem dX8_offer_39 : decode cX8_offer 39 = .ok (.iconst 1, 1) := by decide +kernel
theorem dX8_offer_40 : decode cX8_offer 40 = .ok (.iadd, 1) := by decide +kernel
theorem dX8_offer_41 : decode cX8_offer 41 = .ok (.putfield 22, 3) := by decide +kernel
theorem dX8_offer_44 : decode cX8_offer 44 = .ok (.return_, 1) := by decide +kernel
theorem dX8_offer_45 : decode cX8_offer 45 = .ok (.iload 5, 2) := by decide +kernel
theorem dX8_offer_47 : decode cX8_offer 47 = .ok (.aload_n 0, 1) := by decide +kernel
theorem dX8_offer_48 : decode cX8_offer 48 = .ok (.getfield 19, 3) := by decide +kernel
theorem dX8_offer_51 : decode cX8_offer 51 = .ok (.if_icmp .ge 8, 3) := by decide +kernel
theorem dX8_offer_54 : decode cX8_offer 54 = .ok (.iload 5, 2) := by decide +kernel
theorem dX8_offer_56 : decode cX8_offer 56 = .ok (.goto 7, 3) := by decide +kernel
theorem dX8_offer_59 : decode cX8_offer 59 = .ok (.aload_n 0, 1) := by decide +kernel
theorem dX8_offer_60 : decode cX8_offer 60 = .ok (.getfield 19, 3) := by decide +kernel
theorem dX8_offer_63 : decode cX8_offer 63 = .ok (.istore 6, 2) := by decide +kernel
theorem dX8_offer_65 : decode cX8_offer 65 = .ok (.aload_n 0, 1) := by decide +kernel
theorem dX8_offer_66 : decode cX8_offer 66 = .ok (.getfield 9, 3) := by decide +kernel
theorem dX8_offer_69 : decode cX8_offer 69 = .ok (.iload_n 1, 1) := by decide +kernel
theorem dX8_offer_70 : decode cX8_offer 70 = .ok (.iload 6, 2) := by decide +kernel
theorem dX8_offer_72 : decode cX8_offer 72 = .ok (.iastore, 1) := by decide +kernel
theorem dX8_offer_73 : decode cX8_offer 73 = .ok (.aload_n 0, 1) := by decide +kernel
theorem dX8_offer_74 : decode cX8_offer 74 = .ok (.dup, 1) := by decide +kernel
theorem dX8_offer_75 : decode cX8_offer 75 = .ok (.getfield 19, 3) := by decide +kernel
theorem dX8_offer_78 : decode cX8_offer 78 = .ok (.iload 6, 2) := by decide +kernel
theorem dX8_offer_80 : decode cX8_offer 80 = .ok (.isub, 1) := by decide +kernel
theorem dX8_offer_81 : decode cX8_offer 81 = .ok (.putfield 19, 3) := by decide +kernel
theorem dX8_offer_84 : decode cX8_offer 84 = .ok (.iload_n 2, 1) := by decide +kernel
theorem dX8_offer_85 : decode cX8_offer 85 = .ok (.iconst 2, 1) := by decide +kernel
theorem dX8_offer_86 : decode cX8_offer 86 = .ok (.if_icmp .ne 16, 3) := by decide +kernel
theorem dX8_offer_89 : decode cX8_offer 89 = .ok (.aload_n 0, 1) := by decide +kernel
theorem dX8_offer_90 : decode cX8_offer 90 = .ok (.aload_n 0, 1) := by decide +kernel
theorem dX8_offer_91 : decode cX8_offer 91 = .ok (.getfield 19, 3) := by decide +kernel
theorem dX8_offer_94 : decode cX8_offer 94 = .ok (.iconst 2, 1) := by decide +kernel
theorem dX8_offer_95 : decode cX8_offer 95 = .ok (.idiv, 1) := by decide +kernel
theorem dX8_offer_96 : decode cX8_offer 96 = .ok (.putfield 19, 3) := by decide +kernel
theorem dX8_offer_99 : decode cX8_offer 99 = .ok (.goto 41, 3) := by decide +kernel
theorem dX8_offer_102 : decode cX8_offer 102 = .ok (.iload_n 2, 1) := by decide +kernel
theorem dX8_offer_103 : decode cX8_offer 103 = .ok (.iconst 3, 1) := by decide +kernel
theorem dX8_offer_104 : decode cX8_offer 104 = .ok (.if_icmp .ne 36, 3) := by decide +kernel
theorem dX8_offer_107 : decode cX8_offer 107 = .ok (.aload_n 0, 1) := by decide +kernel
theorem dX8_offer_108 : decode cX8_offer 108 = .ok (.getfield 19, 3) := by decide +kernel
theorem dX8_offer_111 : decode cX8_offer 111 = .ok (.ifCond .le 29, 3) := by decide +kernel
theorem dX8_offer_114 : decode cX8_offer 114 = .ok (.aload_n 0, 1) := by decide +kernel
theorem dX8_offer_115 : decode cX8_offer 115 = .ok (.aload_n 0, 1) := by decide +kernel
theorem dX8_offer_116 : decode cX8_offer 116 = .ok (.getfield 19, 3) := by decide +kernel
theorem dX8_offer_119 : decode cX8_offer 119 = .ok (.iconst 3, 1) := by decide +kernel
theorem dX8_offer_120 : decode cX8_offer 120 = .ok (.iadd, 1) := by decide +kernel
theorem dX8_offer_121 : decode cX8_offer 121 = .ok (.bipush 99, 2) := by decide +kernel
theorem dX8_offer_123 : decode cX8_offer 123 = .ok (.if_icmp .ge 12, 3) := by decide +kernel
theorem dX8_offer_126 : decode cX8_offer 126 = .ok (.aload_n 0, 1) := by decide +kernel
theorem dX8_offer_127 : decode cX8_offer 127 = .ok (.getfield 19, 3) := by decide +kernel
theorem dX8_offer_130 : decode cX8_offer 130 = .ok (.iconst 3, 1) := by decide +kernel
theorem dX8_offer_131 : decode cX8_offer 131 = .ok (.iadd, 1) := by decide +kernel
theorem dX8_offer_132 : decode cX8_offer 132 = .ok (.goto 5, 3) := by decide +kernel
theorem dX8_offer_135 : decode cX8_offer 135 = .ok (.bipush 99, 2) := by decide +kernel
theorem dX8_offer_137 : decode cX8_offer 137 = .ok (.putfield 19, 3) := by decide +kernel
theorem dX8_offer_140 : decode cX8_offer 140 = .ok (.aload_n 0, 1) := by decide +kernel
theorem dX8_offer_141 : decode cX8_offer 141 = .ok (.iload_n 2, 1) := by decide +kernel
theorem dX8_offer_142 : decode cX8_offer 142 = .ok (.iconst 1, 1) := by decide +kernel
theorem dX8_offer_143 : decode cX8_offer 143 = .ok (.if_icmp .ne 7, 3) := by decide +kernel
theorem dX8_offer_146 : decode cX8_offer 146 = .ok (.iconst 1, 1) := by decide +kernel
theorem dX8_offer_147 : decode cX8_offer 147 = .ok (.goto 4, 3) := by decide +kernel
theorem dX8_offer_150 : decode cX8_offer 150 = .ok (.iconst 0, 1) := by decide +kernel
theorem dX8_offer_151 : decode cX8_offer 151 = .ok (.putfield 31, 3) := by decide +kernel
theorem dX8_offer_154 : decode cX8_offer 154 = .ok (.aload_n 0, 1) := by decide +kernel
theorem dX8_offer_155 : decode cX8_offer 155 = .ok (.getfield 19, 3) := by decide +kernel
theorem dX8_offer_158 : decode cX8_offer 158 = .ok (.ifCond .ne 8, 3) := by decide +kernel
theorem dX8_offer_161 : decode cX8_offer 161 = .ok (.aload_n 0, 1) := by decide +kernel
theorem dX8_offer_162 : decode cX8_offer 162 = .ok (.iload_n 1, 1) := by decide +kernel
theorem dX8_offer_163 : decode cX8_offer 163 = .ok (.putfield 15, 3) := by decide +kernel
theorem dX8_offer_166 : decode cX8_offer 166 = .ok (.return_, 1) := by decide +kernel
theorem dJ6_bitCount_0f7a4_0 : decode cJ6_bitCount_0f7a4 0 = .ok (.iload_n 0, 1) := by decide +kernel
theorem dJ6_bitCount_0f7a4_1 : decode cJ6_bitCount_0f7a4 1 = .ok (.iload_n 0, 1) := by decide +kernel
theorem dJ6_bitCount_0f7a4_2 : decode cJ6_bitCount_0f7a4 2 = .ok (.iconst 1, 1) := by decide +kernel
theorem dJ6_bitCount_0f7a4_3 : decode cJ6_bitCount_0f7a4 3 = .ok (.iushr, 1) := by decide +kernel
theorem dJ6_bitCount_0f7a4_4 : decode cJ6_bitCount_0f7a4 4 = .ok (.ldc_w 265, 3) := by decide +kernel
theorem dJ6_bitCount_0f7a4_7 : decode cJ6_bitCount_0f7a4 7 = .ok (.iand, 1) := by decide +kernel
theorem dJ6_bitCount_0f7a4_8 : decode cJ6_bitCount_0f7a4 8 = .ok (.isub, 1) := by decide +kernel
theorem dJ6_bitCount_0f7a4_9 : decode cJ6_bitCount_0f7a4 9 = .ok (.istore_n 0, 1) := by decide +kernel
theorem dJ6_bitCount_0f7a4_10 : decode cJ6_bitCount_0f7a4 10 = .ok (.iload_n 0, 1) := by decide +kernel
theorem dJ6_bitCount_0f7a4_11 : decode cJ6_bitCount_0f7a4 11 = .ok (.ldc_w 266, 3) := by decide +kernel
theorem dJ6_bitCount_0f7a4_14 : decode cJ6_bitCount_0f7a4 14 = .ok (.iand, 1) := by decide +kernel
theorem dJ6_bitCount_0f7a4_15 : decode cJ6_bitCount_0f7a4 15 = .ok (.iload_n 0, 1) := by decide +kernel
theorem dJ6_bitCount_0f7a4_16 : decode cJ6_bitCount_0f7a4 16 = .ok (.iconst 2, 1) := by decide +kernel
theorem dJ6_bitCount_0f7a4_17 : decode cJ6_bitCount_0f7a4 17 = .ok (.iushr, 1) := by decide +kernel
theorem dJ6_bitCount_0f7a4_18 : decode cJ6_bitCount_0f7a4 18 = .ok (.ldc_w 266, 3) := by decide +kernel
theorem dJ6_bitCount_0f7a4_21 : decode cJ6_bitCount_0f7a4 21 = .ok (.iand, 1) := by decide +kernel
theorem dJ6_bitCount_0f7a4_22 : decode cJ6_bitCount_0f7a4 22 = .ok (.iadd, 1) := by decide +kernel
theorem dJ6_bitCount_0f7a4_23 : decode cJ6_bitCount_0f7a4 23 = .ok (.istore_n 0, 1) := by decide +kernel
theorem dJ6_bitCount_0f7a4_24 : decode cJ6_bitCount_0f7a4 24 = .ok (.iload_n 0, 1) := by decide +kernel
theorem dJ6_bitCount_0f7a4_25 : decode cJ6_bitCount_0f7a4 25 = .ok (.iload_n 0, 1) := by decide +kernel
theorem dJ6_bitCount_0f7a4_26 : decode cJ6_bitCount_0f7a4 26 = .ok (.iconst 4, 1) := by decide +kernel
theorem dJ6_bitCount_0f7a4_27 : decode cJ6_bitCount_0f7a4 27 = .ok (.iushr, 1) := by decide +kernel
theorem dJ6_bitCount_0f7a4_28 : decode cJ6_bitCount_0f7a4 28 = .ok (.iadd, 1) := by decide +kernel
theorem dJ6_bitCount_0f7a4_29 : decode cJ6_bitCount_0f7a4 29 = .ok (.ldc_w 267, 3) := by decide +kernel
theorem dJ6_bitCount_0f7a4_32 : decode cJ6_bitCount_0f7a4 32 = .ok (.iand, 1) := by decide +kernel
theorem dJ6_bitCount_0f7a4_33 : decode cJ6_bitCount_0f7a4 33 = .ok (.istore_n 0, 1) := by decide +kernel
theorem dJ6_bitCount_0f7a4_34 : decode cJ6_bitCount_0f7a4 34 = .ok (.iload_n 0, 1) := by decide +kernel
theorem dJ6_bitCount_0f7a4_35 : decode cJ6_bitCount_0f7a4 35 = .ok (.iload_n 0, 1) := by decide +kernel
theorem dJ6_bitCount_0f7a4_36 : decode cJ6_bitCount_0f7a4 36 = .ok (.bipush 8, 2) := by decide +kernel
theorem dJ6_bitCount_0f7a4_38 : decode cJ6_bitCount_0f7a4 38 = .ok (.iushr, 1) := by decide +kernel
theorem dJ6_bitCount_0f7a4_39 : decode cJ6_bitCount_0f7a4 39 = .ok (.iadd, 1) := by decide +kernel
theorem dJ6_bitCount_0f7a4_40 : decode cJ6_bitCount_0f7a4 40 = .ok (.istore_n 0, 1) := by decide +kernel
theorem dJ6_bitCount_0f7a4_41 : decode cJ6_bitCount_0f7a4 41 = .ok (.iload_n 0, 1) := by decide +kernel
theorem dJ6_bitCount_0f7a4_42 : decode cJ6_bitCount_0f7a4 42 = .ok (.iload_n 0, 1) := by decide +kernel
theorem dJ6_bitCount_0f7a4_43 : decode cJ6_bitCount_0f7a4 43 = .ok (.bipush 16, 2) := by decide +kernel
theorem dJ6_bitCount_0f7a4_45 : decode cJ6_bitCount_0f7a4 45 = .ok (.iushr, 1) := by decide +kernel
theorem dJ6_bitCount_0f7a4_46 : decode cJ6_bitCount_0f7a4 46 = .ok (.iadd, 1) := by decide +kernel
theorem dJ6_bitCount_0f7a4_47 : decode cJ6_bitCount_0f7a4 47 = .ok (.istore_n 0, 1) := by decide +kernel
theorem dJ6_bitCount_0f7a4_48 : decode cJ6_bitCount_0f7a4 48 = .ok (.iload_n 0, 1) := by decide +kernel
theorem dJ6_bitCount_0f7a4_49 : decode cJ6_bitCount_0f7a4 49 = .ok (.bipush 63, 2) := by decide +kernel
theorem dJ6_bitCount_0f7a4_51 : decode cJ6_bitCount_0f7a4 51 = .ok (.iand, 1) := by decide +kernel
theorem dJ6_bitCount_0f7a4_52 : decode cJ6_bitCount_0f7a4 52 = .ok (.ireturn, 1) := by decide +kernel
theorem dJ9_max_7cf53_0 : decode cJ9_max_7cf53 0 = .ok (.iload_n 0, 1) := by decide +kernel
theorem dJ9_max_7cf53_1 : decode cJ9_max_7cf53 1 = .ok (.iload_n 1, 1) := by decide +kernel
theorem dJ9_max_7cf53_2 : decode cJ9_max_7cf53 2 = .ok (.if_icmp .lt 7, 3) := by decide +kernel
theorem dJ9_max_7cf53_5 : decode cJ9_max_7cf53 5 = .ok (.iload_n 0, 1) := by decide +kernel
theorem dJ9_max_7cf53_6 : decode cJ9_max_7cf53 6 = .ok (.goto 4, 3) := by decide +kernel
theorem dJ9_max_7cf53_9 : decode cJ9_max_7cf53 9 = .ok (.iload_n 1, 1) := by decide +kernel
theorem dJ9_max_7cf53_10 : decode cJ9_max_7cf53 10 = .ok (.ireturn, 1) := by decide +kernel
theorem dJ9_min_7cf53_0 : decode cJ9_min_7cf53 0 = .ok (.iload_n 0, 1) := by decide +kernel
theorem dJ9_min_7cf53_1 : decode cJ9_min_7cf53 1 = .ok (.iload_n 1, 1) := by decide +kernel
theorem dJ9_min_7cf53_2 : decode cJ9_min_7cf53 2 = .ok (.if_icmp .gt 7, 3) := by decide +kernel
theorem dJ9_min_7cf53_5 : decode cJ9_min_7cf53 5 = .ok (.iload_n 0, 1) := by decide +kernel
theorem dJ9_min_7cf53_6 : decode cJ9_min_7cf53 6 = .ok (.goto 4, 3) := by decide +kernel
theorem dJ9_min_7cf53_9 : decode cJ9_min_7cf53 9 = .ok (.iload_n 1, 1) := by decide +kernel
theorem dJ9_min_7cf53_10 : decode cJ9_min_7cf53 10 = .ok (.ireturn, 1) := by decide +kernel
