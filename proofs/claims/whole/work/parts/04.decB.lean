theorem dX9_init_0 : decode cX9_init 0 = .ok (.aload_n 0, 1) := by decide +kernel
theorem dX9_init_1 : decode cX9_init 1 = .ok (.invokespecial 1, 3) := by decide +kernel
theorem dX9_init_4 : decode cX9_init 4 = .ok (.aload_n 0, 1) := by decide +kernel
theorem dX9_init_5 : decode cX9_init 5 = .ok (.new 7, 3) := by decide +kernel
theorem dX9_init_8 : decode cX9_init 8 = .ok (.dup, 1) := by decide +kernel
theorem dX9_init_9 : decode cX9_init 9 = .ok (.iconst 1, 1) := by decide +kernel
theorem dX9_init_10 : decode cX9_init 10 = .ok (.invokespecial 9, 3) := by decide +kernel
theorem dX9_init_13 : decode cX9_init 13 = .ok (.putfield 12, 3) := by decide +kernel
theorem dX9_init_16 : decode cX9_init 16 = .ok (.aload_n 0, 1) := by decide +kernel
theorem dX9_init_17 : decode cX9_init 17 = .ok (.new 7, 3) := by decide +kernel
theorem dX9_init_20 : decode cX9_init 20 = .ok (.dup, 1) := by decide +kernel
theorem dX9_init_21 : decode cX9_init 21 = .ok (.iconst 0, 1) := by decide +kernel
theorem dX9_init_22 : decode cX9_init 22 = .ok (.invokespecial 9, 3) := by decide +kernel
theorem dX9_init_25 : decode cX9_init 25 = .ok (.putfield 18, 3) := by decide +kernel
theorem dX9_init_28 : decode cX9_init 28 = .ok (.aload_n 0, 1) := by decide +kernel
theorem dX9_init_29 : decode cX9_init 29 = .ok (.new 21, 3) := by decide +kernel
theorem dX9_init_32 : decode cX9_init 32 = .ok (.dup, 1) := by decide +kernel
theorem dX9_init_33 : decode cX9_init 33 = .ok (.invokespecial 23, 3) := by decide +kernel
theorem dX9_init_36 : decode cX9_init 36 = .ok (.putfield 24, 3) := by decide +kernel
theorem dX9_init_39 : decode cX9_init 39 = .ok (.aload_n 0, 1) := by decide +kernel
theorem dX9_init_40 : decode cX9_init 40 = .ok (.new 28, 3) := by decide +kernel
theorem dX9_init_43 : decode cX9_init 43 = .ok (.dup, 1) := by decide +kernel
theorem dX9_init_44 : decode cX9_init 44 = .ok (.invokespecial 30, 3) := by decide +kernel
theorem dX9_init_47 : decode cX9_init 47 = .ok (.putfield 31, 3) := by decide +kernel
theorem dX9_init_50 : decode cX9_init 50 = .ok (.aload_n 0, 1) := by decide +kernel
theorem dX9_init_51 : decode cX9_init 51 = .ok (.new 35, 3) := by decide +kernel
theorem dX9_init_54 : decode cX9_init 54 = .ok (.dup, 1) := by decide +kernel
theorem dX9_init_55 : decode cX9_init 55 = .ok (.invokespecial 37, 3) := by decide +kernel
theorem dX9_init_58 : decode cX9_init 58 = .ok (.putfield 38, 3) := by decide +kernel
theorem dX9_init_61 : decode cX9_init 61 = .ok (.aload_n 0, 1) := by decide +kernel
theorem dX9_init_62 : decode cX9_init 62 = .ok (.new 42, 3) := by decide +kernel
theorem dX9_init_65 : decode cX9_init 65 = .ok (.dup, 1) := by decide +kernel
theorem dX9_init_66 : decode cX9_init 66 = .ok (.invokespecial 44, 3) := by decide +kernel
theorem dX9_init_69 : decode cX9_init 69 = .ok (.putfield 45, 3) := by decide +kernel
theorem dX9_init_72 : decode cX9_init 72 = .ok (.aload_n 0, 1) := by decide +kernel
theorem dX9_init_73 : decode cX9_init 73 = .ok (.new 49, 3) := by decide +kernel
theorem dX9_init_76 : decode cX9_init 76 = .ok (.dup, 1) := by decide +kernel
theorem dX9_init_77 : decode cX9_init 77 = .ok (.invokespecial 51, 3) := by decide +kernel
theorem dX9_init_80 : decode cX9_init 80 = .ok (.putfield 52, 3) := by decide +kernel
theorem dX9_init_83 : decode cX9_init 83 = .ok (.aload_n 0, 1) := by decide +kernel
theorem dX9_init_84 : decode cX9_init 84 = .ok (.new 56, 3) := by decide +kernel
theorem dX9_init_87 : decode cX9_init 87 = .ok (.dup, 1) := by decide +kernel
theorem dX9_init_88 : decode cX9_init 88 = .ok (.invokespecial 58, 3) := by decide +kernel
theorem dX9_init_91 : decode cX9_init 91 = .ok (.putfield 59, 3) := by decide +kernel
theorem dX9_init_94 : decode cX9_init 94 = .ok (.aload_n 0, 1) := by decide +kernel
theorem dX9_init_95 : decode cX9_init 95 = .ok (.new 21, 3) := by decide +kernel
theorem dX9_init_98 : decode cX9_init 98 = .ok (.dup, 1) := by decide +kernel
theorem dX9_init_99 : decode cX9_init 99 = .ok (.invokespecial 23, 3) := by decide +kernel
theorem dX9_init_102 : decode cX9_init 102 = .ok (.putfield 63, 3) := by decide +kernel
theorem dX9_init_105 : decode cX9_init 105 = .ok (.aload_n 0, 1) := by decide +kernel
theorem dX9_init_106 : decode cX9_init 106 = .ok (.new 66, 3) := by decide +kernel
theorem dX9_init_109 : decode cX9_init 109 = .ok (.dup, 1) := by decide +kernel
theorem dX9_init_110 : decode cX9_init 110 = .ok (.invokespecial 68, 3) := by decide +kernel
theorem dX9_init_113 : decode cX9_init 113 = .ok (.putfield 69, 3) := by decide +kernel
theorem dX9_init_116 : decode cX9_init 116 = .ok (.aload_n 0, 1) := by decide +kernel
theorem dX9_init_117 : decode cX9_init 117 = .ok (.new 73, 3) := by decide +kernel
theorem dX9_init_120 : decode cX9_init 120 = .ok (.dup, 1) := by decide +kernel
theorem dX9_init_121 : decode cX9_init 121 = .ok (.invokespecial 75, 3) := by decide +kernel
theorem dX9_init_124 : decode cX9_init 124 = .ok (.putfield 76, 3) := by decide +kernel
theorem dX9_init_127 : decode cX9_init 127 = .ok (.aload_n 0, 1) := by decide +kernel
theorem dX9_init_128 : decode cX9_init 128 = .ok (.iconst 0, 1) := by decide +kernel
theorem dX9_init_129 : decode cX9_init 129 = .ok (.putfield 80, 3) := by decide +kernel
theorem dX9_init_132 : decode cX9_init 132 = .ok (.return_, 1) := by decide +kernel
theorem dX9_type_0 : decode cX9_type 0 = .ok (.iload_n 1, 1) := by decide +kernel
theorem dX9_type_1 : decode cX9_type 1 = .ok (.invokestatic 84, 3) := by decide +kernel
theorem dX9_type_4 : decode cX9_type 4 = .ok (.ifCond .eq 14, 3) := by decide +kernel
theorem dX9_type_7 : decode cX9_type 7 = .ok (.iload_n 2, 1) := by decide +kernel
theorem dX9_type_8 : decode cX9_type 8 = .ok (.ifCond .lt 10, 3) := by decide +kernel
theorem dX9_type_11 : decode cX9_type 11 = .ok (.iload_n 2, 1) := by decide +kernel
theorem dX9_type_12 : decode cX9_type 12 = .ok (.sipush 255, 3) := by decide +kernel
theorem dX9_type_15 : decode cX9_type 15 = .ok (.if_icmp .le 6, 3) := by decide +kernel
theorem dX9_type_18 : decode cX9_type 18 = .ok (.bipush (-2), 2) := by decide +kernel
theorem dX9_type_20 : decode cX9_type 20 = .ok (.ireturn, 1) := by decide +kernel
theorem dX9_type_21 : decode cX9_type 21 = .ok (.aload_n 0, 1) := by decide +kernel
theorem dX9_type_22 : decode cX9_type 22 = .ok (.iload_n 1, 1) := by decide +kernel
theorem dX9_type_23 : decode cX9_type 23 = .ok (.invokevirtual 88, 3) := by decide +kernel
theorem dX9_type_26 : decode cX9_type 26 = .ok (.astore_n 3, 1) := by decide +kernel
theorem dX9_type_27 : decode cX9_type 27 = .ok (.aload_n 3, 1) := by decide +kernel
theorem dX9_type_28 : decode cX9_type 28 = .ok (.getfield 92, 3) := by decide +kernel
theorem dX9_type_31 : decode cX9_type 31 = .ok (.aload_n 3, 1) := by decide +kernel
theorem dX9_type_32 : decode cX9_type 32 = .ok (.getfield 95, 3) := by decide +kernel
theorem dX9_type_35 : decode cX9_type 35 = .ok (.arraylength, 1) := by decide +kernel
theorem dX9_type_36 : decode cX9_type 36 = .ok (.if_icmp .lt 6, 3) := by decide +kernel
theorem dX9_type_39 : decode cX9_type 39 = .ok (.bipush (-4), 2) := by decide +kernel
theorem dX9_type_41 : decode cX9_type 41 = .ok (.ireturn, 1) := by decide +kernel
theorem dX9_type_42 : decode cX9_type 42 = .ok (.aload_n 3, 1) := by decide +kernel
theorem dX9_type_43 : decode cX9_type 43 = .ok (.getfield 95, 3) := by decide +kernel
theorem dX9_type_46 : decode cX9_type 46 = .ok (.aload_n 3, 1) := by decide +kernel
theorem dX9_type_47 : decode cX9_type 47 = .ok (.getfield 92, 3) := by decide +kernel
theorem dX9_type_50 : decode cX9_type 50 = .ok (.iload_n 2, 1) := by decide +kernel
theorem dX9_type_51 : decode cX9_type 51 = .ok (.iastore, 1) := by decide +kernel
theorem dX9_type_52 : decode cX9_type 52 = .ok (.aload_n 3, 1) := by decide +kernel
theorem dX9_type_53 : decode cX9_type 53 = .ok (.dup, 1) := by decide +kernel
theorem dX9_type_54 : decode cX9_type 54 = .ok (.getfield 92, 3) := by decide +kernel
theorem dX9_type_57 : decode cX9_type 57 = .ok (.iconst 1, 1) := by decide +kernel
theorem dX9_type_58 : decode cX9_type 58 = .ok (.iadd, 1) := by decide +kernel
theorem dX9_type_59 : decode cX9_type 59 = .ok (.putfield 92, 3) := by decide +kernel
theorem dX9_type_62 : decode cX9_type 62 = .ok (.aload_n 0, 1) := by decide +kernel
theorem dX9_type_63 : decode cX9_type 63 = .ok (.invokevirtual 99, 3) := by decide +kernel
theorem dX9_type_66 : decode cX9_type 66 = .ok (.aload_n 3, 1) := by decide +kernel
theorem dX9_type_67 : decode cX9_type 67 = .ok (.getfield 92, 3) := by decide +kernel
theorem dX9_type_70 : decode cX9_type 70 = .ok (.ireturn, 1) := by decide +kernel
theorem dX9_wipe_0 : decode cX9_wipe 0 = .ok (.iload_n 1, 1) := by decide +kernel
theorem dX9_wipe_1 : decode cX9_wipe 1 = .ok (.invokestatic 84, 3) := by decide +kernel
theorem dX9_wipe_4 : decode cX9_wipe 4 = .ok (.ifCond .ne 6, 3) := by decide +kernel
theorem dX9_wipe_7 : decode cX9_wipe 7 = .ok (.bipush (-2), 2) := by decide +kernel
theorem dX9_wipe_9 : decode cX9_wipe 9 = .ok (.ireturn, 1) := by decide +kernel
theorem dX9_wipe_10 : decode cX9_wipe 10 = .ok (.aload_n 0, 1) := by decide +kernel
theorem dX9_wipe_11 : decode cX9_wipe 11 = .ok (.iload_n 1, 1) := by decide +kernel
theorem dX9_wipe_12 : decode cX9_wipe 12 = .ok (.invokevirtual 88, 3) := by decide +kernel
theorem dX9_wipe_15 : decode cX9_wipe 15 = .ok (.astore_n 2, 1) := by decide +kernel
theorem dX9_wipe_16 : decode cX9_wipe 16 = .ok (.aload_n 2, 1) := by decide +kernel
theorem dX9_wipe_17 : decode cX9_wipe 17 = .ok (.getfield 92, 3) := by decide +kernel
theorem dX9_wipe_20 : decode cX9_wipe 20 = .ok (.istore_n 3, 1) := by decide +kernel
theorem dX9_wipe_21 : decode cX9_wipe 21 = .ok (.aload_n 2, 1) := by decide +kernel
theorem dX9_wipe_22 : decode cX9_wipe 22 = .ok (.iconst 0, 1) := by decide +kernel
theorem dX9_wipe_23 : decode cX9_wipe 23 = .ok (.putfield 92, 3) := by decide +kernel
theorem dX9_wipe_26 : decode cX9_wipe 26 = .ok (.aload_n 0, 1) := by decide +kernel
theorem dX9_wipe_27 : decode cX9_wipe 27 = .ok (.invokevirtual 99, 3) := by decide +kernel
theorem dX9_wipe_30 : decode cX9_wipe 30 = .ok (.iload_n 3, 1) := by decide +kernel
theorem dX9_wipe_31 : decode cX9_wipe 31 = .ok (.ireturn, 1) := by decide +kernel
theorem dX9_undo_0 : decode cX9_undo 0 = .ok (.iload_n 1, 1) := by decide +kernel
theorem dX9_undo_1 : decode cX9_undo 1 = .ok (.invokestatic 84, 3) := by decide +kernel
theorem dX9_undo_4 : decode cX9_undo 4 = .ok (.ifCond .ne 6, 3) := by decide +kernel
theorem dX9_undo_7 : decode cX9_undo 7 = .ok (.bipush (-2), 2) := by decide +kernel
theorem dX9_undo_9 : decode cX9_undo 9 = .ok (.ireturn, 1) := by decide +kernel
theorem dX9_undo_10 : decode cX9_undo 10 = .ok (.aload_n 0, 1) := by decide +kernel
theorem dX9_undo_11 : decode cX9_undo 11 = .ok (.iload_n 1, 1) := by decide +kernel
theorem dX9_undo_12 : decode cX9_undo 12 = .ok (.invokevirtual 88, 3) := by decide +kernel
theorem dX9_undo_15 : decode cX9_undo 15 = .ok (.astore_n 2, 1) := by decide +kernel
theorem dX9_undo_16 : decode cX9_undo 16 = .ok (.aload_n 2, 1) := by decide +kernel
theorem dX9_undo_17 : decode cX9_undo 17 = .ok (.getfield 92, 3) := by decide +kernel
theorem dX9_undo_20 : decode cX9_undo 20 = .ok (.ifCond .ne 6, 3) := by decide +kernel
theorem dX9_undo_23 : decode cX9_undo 23 = .ok (.bipush (-3), 2) := by decide +kernel
theorem dX9_undo_25 : decode cX9_undo 25 = .ok (.ireturn, 1) := by decide +kernel
theorem dX9_undo_26 : decode cX9_undo 26 = .ok (.aload_n 2, 1) := by decide +kernel
theorem dX9_undo_27 : decode cX9_undo 27 = .ok (.dup, 1) := by decide +kernel
theorem dX9_undo_28 : decode cX9_undo 28 = .ok (.getfield 92, 3) := by decide +kernel
theorem dX9_undo_31 : decode cX9_undo 31 = .ok (.iconst 1, 1) := by decide +kernel
theorem dX9_undo_32 : decode cX9_undo 32 = .ok (.isub, 1) := by decide +kernel
theorem dX9_undo_33 : decode cX9_undo 33 = .ok (.putfield 92, 3) := by decide +kernel
theorem dX9_undo_36 : decode cX9_undo 36 = .ok (.aload_n 0, 1) := by decide +kernel
theorem dX9_undo_37 : decode cX9_undo 37 = .ok (.invokevirtual 99, 3) := by decide +kernel
theorem dX9_undo_40 : decode cX9_undo 40 = .ok (.aload_n 2, 1) := by decide +kernel
theorem dX9_undo_41 : decode cX9_undo 41 = .ok (.getfield 92, 3) := by decide +kernel
theorem dX9_undo_44 : decode cX9_undo 44 = .ok (.ireturn, 1) := by decide +kernel
theorem dX9_fault_0 : decode cX9_fault 0 = .ok (.iload_n 1, 1) := by decide +kernel
theorem dX9_fault_1 : decode cX9_fault 1 = .ok (.invokestatic 84, 3) := by decide +kernel
theorem dX9_fault_4 : decode cX9_fault 4 = .ok (.ifCond .eq 14, 3) := by decide +kernel
theorem dX9_fault_7 : decode cX9_fault 7 = .ok (.aload_n 0, 1) := by decide +kernel
theorem dX9_fault_8 : decode cX9_fault 8 = .ok (.iload_n 1, 1) := by decide +kernel
theorem dX9_fault_9 : decode cX9_fault 9 = .ok (.invokevirtual 88, 3) := by decide +kernel
theorem dX9_fault_12 : decode cX9_fault 12 = .ok (.invokevirtual 102, 3) := by decide +kernel
theorem dX9_fault_15 : decode cX9_fault 15 = .ok (.goto 5, 3) := by decide +kernel
theorem dX9_fault_18 : decode cX9_fault 18 = .ok (.bipush (-2), 2) := by decide +kernel
theorem dX9_fault_20 : decode cX9_fault 20 = .ok (.ireturn, 1) := by decide +kernel
theorem dX9_house_0 : decode cX9_house 0 = .ok (.aload_n 0, 1) := by decide +kernel
theorem dX9_house_1 : decode cX9_house 1 = .ok (.iload_n 1, 1) := by decide +kernel
theorem dX9_house_2 : decode cX9_house 2 = .ok (.invokevirtual 106, 3) := by decide +kernel
theorem dX9_house_5 : decode cX9_house 5 = .ok (.ifCond .eq 12, 3) := by decide +kernel
theorem dX9_house_8 : decode cX9_house 8 = .ok (.iload_n 2, 1) := by decide +kernel
theorem dX9_house_9 : decode cX9_house 9 = .ok (.ifCond .lt 8, 3) := by decide +kernel
theorem dX9_house_12 : decode cX9_house 12 = .ok (.iload_n 2, 1) := by decide +kernel
theorem dX9_house_13 : decode cX9_house 13 = .ok (.iconst 2, 1) := by decide +kernel
theorem dX9_house_14 : decode cX9_house 14 = .ok (.if_icmp .le 6, 3) := by decide +kernel
theorem dX9_house_17 : decode cX9_house 17 = .ok (.bipush (-2), 2) := by decide +kernel
theorem dX9_house_19 : decode cX9_house 19 = .ok (.ireturn, 1) := by decide +kernel
theorem dX9_house_20 : decode cX9_house 20 = .ok (.iload_n 2, 1) := by decide +kernel
theorem dX9_house_21 : decode cX9_house 21 = .ok (.ifCond .ne 13, 3) := by decide +kernel
theorem dX9_house_24 : decode cX9_house 24 = .ok (.aload_n 0, 1) := by decide +kernel
theorem dX9_house_25 : decode cX9_house 25 = .ok (.getfield 24, 3) := by decide +kernel
theorem dX9_house_28 : decode cX9_house 28 = .ok (.getfield 109, 3) := by decide +kernel
theorem dX9_house_31 : decode cX9_house 31 = .ok (.iload_n 1, 1) := by decide +kernel
theorem dX9_house_32 : decode cX9_house 32 = .ok (.iaload, 1) := by decide +kernel
theorem dX9_house_33 : decode cX9_house 33 = .ok (.ireturn, 1) := by decide +kernel
theorem dX9_house_34 : decode cX9_house 34 = .ok (.iload_n 2, 1) := by decide +kernel
theorem dX9_house_35 : decode cX9_house 35 = .ok (.iconst 1, 1) := by decide +kernel
theorem dX9_house_36 : decode cX9_house 36 = .ok (.if_icmp .ne 15, 3) := by decide +kernel
theorem dX9_house_39 : decode cX9_house 39 = .ok (.aload_n 0, 1) := by decide +kernel
theorem dX9_house_40 : decode cX9_house 40 = .ok (.getfield 24, 3) := by decide +kernel
theorem dX9_house_43 : decode cX9_house 43 = .ok (.getfield 112, 3) := by decide +kernel
theorem dX9_house_46 : decode cX9_house 46 = .ok (.iload_n 1, 1) := by decide +kernel
theorem dX9_house_47 : decode cX9_house 47 = .ok (.iaload, 1) := by decide +kernel
theorem dX9_house_48 : decode cX9_house 48 = .ok (.goto 12, 3) := by decide +kernel
theorem dX9_house_51 : decode cX9_house 51 = .ok (.aload_n 0, 1) := by decide +kernel
theorem dX9_house_52 : decode cX9_house 52 = .ok (.getfield 24, 3) := by decide +kernel
theorem dX9_house_55 : decode cX9_house 55 = .ok (.getfield 115, 3) := by decide +kernel
theorem dX9_house_58 : decode cX9_house 58 = .ok (.iload_n 1, 1) := by decide +kernel
theorem dX9_house_59 : decode cX9_house 59 = .ok (.iaload, 1) := by decide +kernel
theorem dX9_house_60 : decode cX9_house 60 = .ok (.ireturn, 1) := by decide +kernel
theorem dX9_guest_0 : decode cX9_guest 0 = .ok (.aload_n 0, 1) := by decide +kernel
theorem dX9_guest_1 : decode cX9_guest 1 = .ok (.iload_n 1, 1) := by decide +kernel
theorem dX9_guest_2 : decode cX9_guest 2 = .ok (.invokevirtual 118, 3) := by decide +kernel
theorem dX9_guest_5 : decode cX9_guest 5 = .ok (.ifCond .eq 12, 3) := by decide +kernel
theorem dX9_guest_8 : decode cX9_guest 8 = .ok (.iload_n 2, 1) := by decide +kernel
theorem dX9_guest_9 : decode cX9_guest 9 = .ok (.ifCond .lt 8, 3) := by decide +kernel
theorem dX9_guest_12 : decode cX9_guest 12 = .ok (.iload_n 2, 1) := by decide +kernel
theorem dX9_guest_13 : decode cX9_guest 13 = .ok (.iconst 3, 1) := by decide +kernel
theorem dX9_guest_14 : decode cX9_guest 14 = .ok (.if_icmp .le 6, 3) := by decide +kernel
theorem dX9_guest_17 : decode cX9_guest 17 = .ok (.bipush (-2), 2) := by decide +kernel
theorem dX9_guest_19 : decode cX9_guest 19 = .ok (.ireturn, 1) := by decide +kernel
theorem dX9_guest_20 : decode cX9_guest 20 = .ok (.iload_n 2, 1) := by decide +kernel
theorem dX9_guest_21 : decode cX9_guest 21 = .ok (.tableswitch 57 0 2 #[27, 37, 47], 27) := by decide +kernel
theorem dX9_guest_48 : decode cX9_guest 48 = .ok (.aload_n 0, 1) := by decide +kernel
theorem dX9_guest_49 : decode cX9_guest 49 = .ok (.getfield 31, 3) := by decide +kernel
theorem dX9_guest_52 : decode cX9_guest 52 = .ok (.getfield 121, 3) := by decide +kernel
theorem dX9_guest_55 : decode cX9_guest 55 = .ok (.iload_n 1, 1) := by decide +kernel
theorem dX9_guest_56 : decode cX9_guest 56 = .ok (.iaload, 1) := by decide +kernel
theorem dX9_guest_57 : decode cX9_guest 57 = .ok (.ireturn, 1) := by decide +kernel
theorem dX9_guest_58 : decode cX9_guest 58 = .ok (.aload_n 0, 1) := by decide +kernel
theorem dX9_guest_59 : decode cX9_guest 59 = .ok (.getfield 31, 3) := by decide +kernel
theorem dX9_guest_62 : decode cX9_guest 62 = .ok (.getfield 124, 3) := by decide +kernel
theorem dX9_guest_65 : decode cX9_guest 65 = .ok (.iload_n 1, 1) := by decide +kernel
theorem dX9_guest_66 : decode cX9_guest 66 = .ok (.iaload, 1) := by decide +kernel
theorem dX9_guest_67 : decode cX9_guest 67 = .ok (.ireturn, 1) := by decide +kernel
theorem dX9_guest_68 : decode cX9_guest 68 = .ok (.aload_n 0, 1) := by decide +kernel
theorem dX9_guest_69 : decode cX9_guest 69 = .ok (.getfield 31, 3) := by decide +kernel
theorem dX9_guest_72 : decode cX9_guest 72 = .ok (.getfield 127, 3) := by decide +kernel
theorem dX9_guest_75 : decode cX9_guest 75 = .ok (.iload_n 1, 1) := by decide +kernel
theorem dX9_guest_76 : decode cX9_guest 76 = .ok (.iaload, 1) := by decide +kernel
theorem dX9_guest_77 : decode cX9_guest 77 = .ok (.ireturn, 1) := by decide +kernel
theorem dX9_guest_78 : decode cX9_guest 78 = .ok (.aload_n 0, 1) := by decide +kernel
theorem dX9_guest_79 : decode cX9_guest 79 = .ok (.getfield 31, 3) := by decide +kernel
theorem dX9_guest_82 : decode cX9_guest 82 = .ok (.getfield 130, 3) := by decide +kernel
theorem dX9_guest_85 : decode cX9_guest 85 = .ok (.iload_n 1, 1) := by decide +kernel
theorem dX9_guest_86 : decode cX9_guest 86 = .ok (.iaload, 1) := by decide +kernel
theorem dX9_guest_87 : decode cX9_guest 87 = .ok (.ireturn, 1) := by decide +kernel
theorem dX9_set_0 : decode cX9_set 0 = .ok (.iload_n 1, 1) := by decide +kernel
theorem dX9_set_1 : decode cX9_set 1 = .ok (.invokestatic 84, 3) := by decide +kernel
theorem dX9_set_4 : decode cX9_set 4 = .ok (.ifCond .eq 22, 3) := by decide +kernel
theorem dX9_set_7 : decode cX9_set 7 = .ok (.iload_n 2, 1) := by decide +kernel
theorem dX9_set_8 : decode cX9_set 8 = .ok (.ifCond .lt 18, 3) := by decide +kernel
theorem dX9_set_11 : decode cX9_set 11 = .ok (.iload_n 2, 1) := by decide +kernel
theorem dX9_set_12 : decode cX9_set 12 = .ok (.iload_n 1, 1) := by decide +kernel
theorem dX9_set_13 : decode cX9_set 13 = .ok (.ifCond .ne 7, 3) := by decide +kernel
theorem dX9_set_16 : decode cX9_set 16 = .ok (.iconst 1, 1) := by decide +kernel
theorem dX9_set_17 : decode cX9_set 17 = .ok (.goto 6, 3) := by decide +kernel
theorem dX9_set_20 : decode cX9_set 20 = .ok (.sipush 255, 3) := by decide +kernel
theorem dX9_set_23 : decode cX9_set 23 = .ok (.if_icmp .le 6, 3) := by decide +kernel
theorem dX9_set_26 : decode cX9_set 26 = .ok (.bipush (-2), 2) := by decide +kernel
theorem dX9_set_28 : decode cX9_set 28 = .ok (.ireturn, 1) := by decide +kernel
theorem dX9_set_29 : decode cX9_set 29 = .ok (.iload_n 1, 1) := by decide +kernel
theorem dX9_set_30 : decode cX9_set 30 = .ok (.ifCond .ne 22, 3) := by decide +kernel
theorem dX9_set_33 : decode cX9_set 33 = .ok (.aload_n 0, 1) := by decide +kernel
theorem dX9_set_34 : decode cX9_set 34 = .ok (.getfield 24, 3) := by decide +kernel
theorem dX9_set_37 : decode cX9_set 37 = .ok (.getfield 133, 3) := by decide +kernel
theorem dX9_set_40 : decode cX9_set 40 = .ok (.istore_n 3, 1) := by decide +kernel
theorem dX9_set_41 : decode cX9_set 41 = .ok (.aload_n 0, 1) := by decide +kernel
theorem dX9_set_42 : decode cX9_set 42 = .ok (.getfield 24, 3) := by decide +kernel
theorem dX9_set_45 : decode cX9_set 45 = .ok (.iload_n 2, 1) := by decide +kernel
theorem dX9_set_46 : decode cX9_set 46 = .ok (.putfield 133, 3) := by decide +kernel
theorem dX9_set_49 : decode cX9_set 49 = .ok (.goto 19, 3) := by decide +kernel
theorem dX9_set_52 : decode cX9_set 52 = .ok (.aload_n 0, 1) := by decide +kernel
theorem dX9_set_53 : decode cX9_set 53 = .ok (.getfield 24, 3) := by decide +kernel
theorem dX9_set_56 : decode cX9_set 56 = .ok (.getfield 136, 3) := by decide +kernel
theorem dX9_set_59 : decode cX9_set 59 = .ok (.istore_n 3, 1) := by decide +kernel
theorem dX9_set_60 : decode cX9_set 60 = .ok (.aload_n 0, 1) := by decide +kernel
theorem dX9_set_61 : decode cX9_set 61 = .ok (.getfield 24, 3) := by decide +kernel
theorem dX9_set_64 : decode cX9_set 64 = .ok (.iload_n 2, 1) := by decide +kernel
theorem dX9_set_65 : decode cX9_set 65 = .ok (.putfield 136, 3) := by decide +kernel
theorem dX9_set_68 : decode cX9_set 68 = .ok (.aload_n 0, 1) := by decide +kernel
theorem dX9_set_69 : decode cX9_set 69 = .ok (.invokevirtual 99, 3) := by decide +kernel
theorem dX9_set_72 : decode cX9_set 72 = .ok (.iload_n 3, 1) := by decide +kernel
theorem dX9_set_73 : decode cX9_set 73 = .ok (.ireturn, 1) := by decide +kernel
theorem dX9_at_0 : decode cX9_at 0 = .ok (.iload_n 1, 1) := by decide +kernel
theorem dX9_at_1 : decode cX9_at 1 = .ok (.ifCond .lt 9, 3) := by decide +kernel
theorem dX9_at_4 : decode cX9_at 4 = .ok (.iload_n 1, 1) := by decide +kernel
theorem dX9_at_5 : decode cX9_at 5 = .ok (.bipush 8, 2) := by decide +kernel
theorem dX9_at_7 : decode cX9_at 7 = .ok (.if_icmp .lt 6, 3) := by decide +kernel
theorem dX9_at_10 : decode cX9_at 10 = .ok (.bipush (-2), 2) := by decide +kernel
theorem dX9_at_12 : decode cX9_at 12 = .ok (.ireturn, 1) := by decide +kernel
theorem dX9_at_13 : decode cX9_at 13 = .ok (.iload_n 1, 1) := by decide +kernel
theorem dX9_at_14 : decode cX9_at 14 = .ok (.aload_n 0, 1) := by decide +kernel
theorem dX9_at_15 : decode cX9_at 15 = .ok (.getfield 24, 3) := by decide +kernel
theorem dX9_at_18 : decode cX9_at 18 = .ok (.getfield 139, 3) := by decide +kernel
theorem dX9_at_21 : decode cX9_at 21 = .ok (.if_icmp .ge 15, 3) := by decide +kernel
theorem dX9_at_24 : decode cX9_at 24 = .ok (.aload_n 0, 1) := by decide +kernel
theorem dX9_at_25 : decode cX9_at 25 = .ok (.getfield 24, 3) := by decide +kernel
theorem dX9_at_28 : decode cX9_at 28 = .ok (.getfield 142, 3) := by decide +kernel
theorem dX9_at_31 : decode cX9_at 31 = .ok (.iload_n 1, 1) := by decide +kernel
theorem dX9_at_32 : decode cX9_at 32 = .ok (.iaload, 1) := by decide +kernel
theorem dX9_at_33 : decode cX9_at 33 = .ok (.goto 4, 3) := by decide +kernel
theorem dX9_at_36 : decode cX9_at 36 = .ok (.iconst (-1), 1) := by decide +kernel
theorem dX9_at_37 : decode cX9_at 37 = .ok (.ireturn, 1) := by decide +kernel
theorem dX9_gives_0 : decode cX9_gives 0 = .ok (.aload_n 0, 1) := by decide +kernel
theorem dX9_gives_1 : decode cX9_gives 1 = .ok (.iload_n 1, 1) := by decide +kernel
theorem dX9_gives_2 : decode cX9_gives 2 = .ok (.invokevirtual 118, 3) := by decide +kernel
theorem dX9_gives_5 : decode cX9_gives 5 = .ok (.ifCond .eq 23, 3) := by decide +kernel
theorem dX9_gives_8 : decode cX9_gives 8 = .ok (.aload_n 0, 1) := by decide +kernel
theorem dX9_gives_9 : decode cX9_gives 9 = .ok (.iload_n 2, 1) := by decide +kernel
theorem dX9_gives_10 : decode cX9_gives 10 = .ok (.invokevirtual 106, 3) := by decide +kernel
theorem dX9_gives_13 : decode cX9_gives 13 = .ok (.ifCond .eq 15, 3) := by decide +kernel
theorem dX9_gives_16 : decode cX9_gives 16 = .ok (.aload_n 0, 1) := by decide +kernel
theorem dX9_gives_17 : decode cX9_gives 17 = .ok (.getfield 38, 3) := by decide +kernel
theorem dX9_gives_20 : decode cX9_gives 20 = .ok (.iload_n 1, 1) := by decide +kernel
theorem dX9_gives_21 : decode cX9_gives 21 = .ok (.iload_n 2, 1) := by decide +kernel
theorem dX9_gives_22 : decode cX9_gives 22 = .ok (.invokevirtual 145, 3) := by decide +kernel
theorem dX9_gives_25 : decode cX9_gives 25 = .ok (.goto 5, 3) := by decide +kernel
theorem dX9_gives_28 : decode cX9_gives 28 = .ok (.bipush (-2), 2) := by decide +kernel
theorem dX9_gives_30 : decode cX9_gives 30 = .ok (.ireturn, 1) := by decide +kernel
theorem dX9_fed_0 : decode cX9_fed 0 = .ok (.aload_n 0, 1) := by decide +kernel
theorem dX9_fed_1 : decode cX9_fed 1 = .ok (.iload_n 1, 1) := by decide +kernel
theorem dX9_fed_2 : decode cX9_fed 2 = .ok (.invokevirtual 118, 3) := by decide +kernel
theorem dX9_fed_5 : decode cX9_fed 5 = .ok (.ifCond .eq 12, 3) := by decide +kernel
theorem dX9_fed_8 : decode cX9_fed 8 = .ok (.iload_n 2, 1) := by decide +kernel
theorem dX9_fed_9 : decode cX9_fed 9 = .ok (.ifCond .lt 8, 3) := by decide +kernel
theorem dX9_fed_12 : decode cX9_fed 12 = .ok (.iload_n 2, 1) := by decide +kernel
theorem dX9_fed_13 : decode cX9_fed 13 = .ok (.iconst 3, 1) := by decide +kernel
theorem dX9_fed_14 : decode cX9_fed 14 = .ok (.if_icmp .le 6, 3) := by decide +kernel
theorem dX9_fed_17 : decode cX9_fed 17 = .ok (.bipush (-2), 2) := by decide +kernel
theorem dX9_fed_19 : decode cX9_fed 19 = .ok (.ireturn, 1) := by decide +kernel
theorem dX9_fed_20 : decode cX9_fed 20 = .ok (.iload_n 2, 1) := by decide +kernel
theorem dX9_fed_21 : decode cX9_fed 21 = .ok (.tableswitch 57 0 2 #[27, 37, 47], 27) := by decide +kernel
theorem dX9_fed_48 : decode cX9_fed 48 = .ok (.aload_n 0, 1) := by decide +kernel
theorem dX9_fed_49 : decode cX9_fed 49 = .ok (.getfield 38, 3) := by decide +kernel
theorem dX9_fed_52 : decode cX9_fed 52 = .ok (.getfield 149, 3) := by decide +kernel
theorem dX9_fed_55 : decode cX9_fed 55 = .ok (.iload_n 1, 1) := by decide +kernel
theorem dX9_fed_56 : decode cX9_fed 56 = .ok (.iaload, 1) := by decide +kernel
theorem dX9_fed_57 : decode cX9_fed 57 = .ok (.ireturn, 1) := by decide +kernel
theorem dX9_fed_58 : decode cX9_fed 58 = .ok (.aload_n 0, 1) := by decide +kernel
theorem dX9_fed_59 : decode cX9_fed 59 = .ok (.getfield 38, 3) := by decide +kernel
theorem dX9_fed_62 : decode cX9_fed 62 = .ok (.getfield 152, 3) := by decide +kernel
theorem dX9_fed_65 : decode cX9_fed 65 = .ok (.iload_n 1, 1) := by decide +kernel
theorem dX9_fed_66 : decode cX9_fed 66 = .ok (.iaload, 1) := by decide +kernel
theorem dX9_fed_67 : decode cX9_fed 67 = .ok (.ireturn, 1) := by decide +kernel
theorem dX9_fed_68 : decode cX9_fed 68 = .ok (.aload_n 0, 1) := by decide +kernel
theorem dX9_fed_69 : decode cX9_fed 69 = .ok (.getfield 38, 3) := by decide +kernel
theorem dX9_fed_72 : decode cX9_fed 72 = .ok (.getfield 155, 3) := by decide +kernel
theorem dX9_fed_75 : decode cX9_fed 75 = .ok (.iload_n 1, 1) := by decide +kernel
theorem dX9_fed_76 : decode cX9_fed 76 = .ok (.iaload, 1) := by decide +kernel
theorem dX9_fed_77 : decode cX9_fed 77 = .ok (.ireturn, 1) := by decide +kernel
theorem dX9_fed_78 : decode cX9_fed 78 = .ok (.aload_n 0, 1) := by decide +kernel
theorem dX9_fed_79 : decode cX9_fed 79 = .ok (.getfield 38, 3) := by decide +kernel
theorem dX9_fed_82 : decode cX9_fed 82 = .ok (.getfield 158, 3) := by decide +kernel
theorem dX9_fed_85 : decode cX9_fed 85 = .ok (.iload_n 1, 1) := by decide +kernel
theorem dX9_fed_86 : decode cX9_fed 86 = .ok (.iaload, 1) := by decide +kernel
theorem dX9_fed_87 : decode cX9_fed 87 = .ok (.ireturn, 1) := by decide +kernel
theorem dX9_all_0 : decode cX9_all 0 = .ok (.aload_n 0, 1) := by decide +kernel
theorem dX9_all_1 : decode cX9_all 1 = .ok (.iload_n 1, 1) := by decide +kernel
theorem dX9_all_2 : decode cX9_all 2 = .ok (.invokevirtual 106, 3) := by decide +kernel
theorem dX9_all_5 : decode cX9_all 5 = .ok (.ifCond .eq 10, 3) := by decide +kernel
theorem dX9_all_8 : decode cX9_all 8 = .ok (.iload_n 2, 1) := by decide +kernel
theorem dX9_all_9 : decode cX9_all 9 = .ok (.invokestatic 84, 3) := by decide +kernel
theorem dX9_all_12 : decode cX9_all 12 = .ok (.ifCond .ne 6, 3) := by decide +kernel
theorem dX9_all_15 : decode cX9_all 15 = .ok (.bipush (-2), 2) := by decide +kernel
theorem dX9_all_17 : decode cX9_all 17 = .ok (.ireturn, 1) := by decide +kernel
theorem dX9_all_18 : decode cX9_all 18 = .ok (.iload_n 2, 1) := by decide +kernel
theorem dX9_all_19 : decode cX9_all 19 = .ok (.ifCond .ne 15, 3) := by decide +kernel
theorem dX9_all_22 : decode cX9_all 22 = .ok (.aload_n 0, 1) := by decide +kernel
theorem dX9_all_23 : decode cX9_all 23 = .ok (.getfield 38, 3) := by decide +kernel
theorem dX9_all_26 : decode cX9_all 26 = .ok (.getfield 161, 3) := by decide +kernel
theorem dX9_all_29 : decode cX9_all 29 = .ok (.iload_n 1, 1) := by decide +kernel
theorem dX9_all_30 : decode cX9_all 30 = .ok (.iaload, 1) := by decide +kernel
theorem dX9_all_31 : decode cX9_all 31 = .ok (.goto 12, 3) := by decide +kernel
theorem dX9_all_34 : decode cX9_all 34 = .ok (.aload_n 0, 1) := by decide +kernel
theorem dX9_all_35 : decode cX9_all 35 = .ok (.getfield 38, 3) := by decide +kernel
theorem dX9_all_38 : decode cX9_all 38 = .ok (.getfield 164, 3) := by decide +kernel
theorem dX9_all_41 : decode cX9_all 41 = .ok (.iload_n 1, 1) := by decide +kernel
theorem dX9_all_42 : decode cX9_all 42 = .ok (.iaload, 1) := by decide +kernel
theorem dX9_all_43 : decode cX9_all 43 = .ok (.ireturn, 1) := by decide +kernel
theorem dX9_price_0 : decode cX9_price 0 = .ok (.aload_n 0, 1) := by decide +kernel
theorem dX9_price_1 : decode cX9_price 1 = .ok (.iload_n 1, 1) := by decide +kernel
theorem dX9_price_2 : decode cX9_price 2 = .ok (.invokevirtual 106, 3) := by decide +kernel
theorem dX9_price_5 : decode cX9_price 5 = .ok (.ifCond .ne 7, 3) := by decide +kernel
theorem dX9_price_8 : decode cX9_price 8 = .ok (.sipush (-10002), 3) := by decide +kernel
theorem dX9_price_11 : decode cX9_price 11 = .ok (.ireturn, 1) := by decide +kernel
theorem dX9_price_12 : decode cX9_price 12 = .ok (.aload_n 0, 1) := by decide +kernel
theorem dX9_price_13 : decode cX9_price 13 = .ok (.getfield 24, 3) := by decide +kernel
theorem dX9_price_16 : decode cX9_price 16 = .ok (.getfield 115, 3) := by decide +kernel
theorem dX9_price_19 : decode cX9_price 19 = .ok (.iload_n 1, 1) := by decide +kernel
theorem dX9_price_20 : decode cX9_price 20 = .ok (.iaload, 1) := by decide +kernel
theorem dX9_price_21 : decode cX9_price 21 = .ok (.iconst 3, 1) := by decide +kernel
theorem dX9_price_22 : decode cX9_price 22 = .ok (.aload_n 0, 1) := by decide +kernel
theorem dX9_price_23 : decode cX9_price 23 = .ok (.getfield 38, 3) := by decide +kernel
theorem dX9_price_26 : decode cX9_price 26 = .ok (.getfield 164, 3) := by decide +kernel
theorem dX9_price_29 : decode cX9_price 29 = .ok (.iload_n 1, 1) := by decide +kernel
theorem dX9_price_30 : decode cX9_price 30 = .ok (.iaload, 1) := by decide +kernel
theorem dX9_price_31 : decode cX9_price 31 = .ok (.imul, 1) := by decide +kernel
theorem dX9_price_32 : decode cX9_price 32 = .ok (.iadd, 1) := by decide +kernel
theorem dX9_price_33 : decode cX9_price 33 = .ok (.aload_n 0, 1) := by decide +kernel
theorem dX9_price_34 : decode cX9_price 34 = .ok (.getfield 38, 3) := by decide +kernel
theorem dX9_price_37 : decode cX9_price 37 = .ok (.getfield 161, 3) := by decide +kernel
theorem dX9_price_40 : decode cX9_price 40 = .ok (.iload_n 1, 1) := by decide +kernel
theorem dX9_price_41 : decode cX9_price 41 = .ok (.iaload, 1) := by decide +kernel
theorem dX9_price_42 : decode cX9_price 42 = .ok (.isub, 1) := by decide +kernel
theorem dX9_price_43 : decode cX9_price 43 = .ok (.ireturn, 1) := by decide +kernel
theorem dX9_poor_0 : decode cX9_poor 0 = .ok (.iconst (-1), 1) := by decide +kernel
theorem dX9_poor_1 : decode cX9_poor 1 = .ok (.istore_n 1, 1) := by decide +kernel
theorem dX9_poor_2 : decode cX9_poor 2 = .ok (.iconst (-1), 1) := by decide +kernel
theorem dX9_poor_3 : decode cX9_poor 3 = .ok (.istore_n 2, 1) := by decide +kernel
theorem dX9_poor_4 : decode cX9_poor 4 = .ok (.iconst 0, 1) := by decide +kernel
theorem dX9_poor_5 : decode cX9_poor 5 = .ok (.istore_n 3, 1) := by decide +kernel
theorem dX9_poor_6 : decode cX9_poor 6 = .ok (.iload_n 3, 1) := by decide +kernel
theorem dX9_poor_7 : decode cX9_poor 7 = .ok (.aload_n 0, 1) := by decide +kernel
theorem dX9_poor_8 : decode cX9_poor 8 = .ok (.getfield 24, 3) := by decide +kernel
theorem dX9_poor_11 : decode cX9_poor 11 = .ok (.getfield 139, 3) := by decide +kernel
theorem dX9_poor_14 : decode cX9_poor 14 = .ok (.if_icmp .ge 34, 3) := by decide +kernel
theorem dX9_poor_17 : decode cX9_poor 17 = .ok (.aload_n 0, 1) := by decide +kernel
theorem dX9_poor_18 : decode cX9_poor 18 = .ok (.getfield 38, 3) := by decide +kernel
theorem dX9_poor_21 : decode cX9_poor 21 = .ok (.getfield 161, 3) := by decide +kernel
theorem dX9_poor_24 : decode cX9_poor 24 = .ok (.iload_n 3, 1) := by decide +kernel
theorem dX9_poor_25 : decode cX9_poor 25 = .ok (.iaload, 1) := by decide +kernel
theorem dX9_poor_26 : decode cX9_poor 26 = .ok (.iload_n 2, 1) := by decide +kernel
theorem dX9_poor_27 : decode cX9_poor 27 = .ok (.if_icmp .le 15, 3) := by decide +kernel
theorem dX9_poor_30 : decode cX9_poor 30 = .ok (.aload_n 0, 1) := by decide +kernel
theorem dX9_poor_31 : decode cX9_poor 31 = .ok (.getfield 38, 3) := by decide +kernel
theorem dX9_poor_34 : decode cX9_poor 34 = .ok (.getfield 161, 3) := by decide +kernel
theorem dX9_poor_37 : decode cX9_poor 37 = .ok (.iload_n 3, 1) := by decide +kernel
theorem dX9_poor_38 : decode cX9_poor 38 = .ok (.iaload, 1) := by decide +kernel
theorem dX9_poor_39 : decode cX9_poor 39 = .ok (.istore_n 2, 1) := by decide +kernel
theorem dX9_poor_40 : decode cX9_poor 40 = .ok (.iload_n 3, 1) := by decide +kernel
theorem dX9_poor_41 : decode cX9_poor 41 = .ok (.istore_n 1, 1) := by decide +kernel
theorem dX9_poor_42 : decode cX9_poor 42 = .ok (.iinc 3 1, 3) := by decide +kernel
theorem dX9_poor_45 : decode cX9_poor 45 = .ok (.goto (-39), 3) := by decide +kernel
theorem dX9_poor_48 : decode cX9_poor 48 = .ok (.iload_n 1, 1) := by decide +kernel
theorem dX9_poor_49 : decode cX9_poor 49 = .ok (.ireturn, 1) := by decide +kernel
theorem dX9_passed_0 : decode cX9_passed 0 = .ok (.iconst 1, 1) := by decide +kernel
theorem dX9_passed_1 : decode cX9_passed 1 = .ok (.aload_n 0, 1) := by decide +kernel
theorem dX9_passed_2 : decode cX9_passed 2 = .ok (.getfield 24, 3) := by decide +kernel
theorem dX9_passed_5 : decode cX9_passed 5 = .ok (.getfield 139, 3) := by decide +kernel
theorem dX9_passed_8 : decode cX9_passed 8 = .ok (.ishl, 1) := by decide +kernel
theorem dX9_passed_9 : decode cX9_passed 9 = .ok (.iconst 1, 1) := by decide +kernel
theorem dX9_passed_10 : decode cX9_passed 10 = .ok (.isub, 1) := by decide +kernel
theorem dX9_passed_11 : decode cX9_passed 11 = .ok (.aload_n 0, 1) := by decide +kernel
theorem dX9_passed_12 : decode cX9_passed 12 = .ok (.getfield 38, 3) := by decide +kernel
theorem dX9_passed_15 : decode cX9_passed 15 = .ok (.getfield 167, 3) := by decide +kernel
theorem dX9_passed_18 : decode cX9_passed 18 = .ok (.iconst (-1), 1) := by decide +kernel
theorem dX9_passed_19 : decode cX9_passed 19 = .ok (.ixor, 1) := by decide +kernel
theorem dX9_passed_20 : decode cX9_passed 20 = .ok (.iand, 1) := by decide +kernel
theorem dX9_passed_21 : decode cX9_passed 21 = .ok (.ireturn, 1) := by decide +kernel
theorem dX9_live_0 : decode cX9_live 0 = .ok (.aload_n 0, 1) := by decide +kernel
theorem dX9_live_1 : decode cX9_live 1 = .ok (.iload_n 1, 1) := by decide +kernel
theorem dX9_live_2 : decode cX9_live 2 = .ok (.invokevirtual 106, 3) := by decide +kernel
theorem dX9_live_5 : decode cX9_live 5 = .ok (.ifCond .eq 10, 3) := by decide +kernel
theorem dX9_live_8 : decode cX9_live 8 = .ok (.iload_n 2, 1) := by decide +kernel
theorem dX9_live_9 : decode cX9_live 9 = .ok (.invokestatic 84, 3) := by decide +kernel
theorem dX9_live_12 : decode cX9_live 12 = .ok (.ifCond .ne 6, 3) := by decide +kernel
theorem dX9_live_15 : decode cX9_live 15 = .ok (.bipush (-2), 2) := by decide +kernel
theorem dX9_live_17 : decode cX9_live 17 = .ok (.ireturn, 1) := by decide +kernel
theorem dX9_live_18 : decode cX9_live 18 = .ok (.aload_n 0, 1) := by decide +kernel
theorem dX9_live_19 : decode cX9_live 19 = .ok (.iload_n 1, 1) := by decide +kernel
theorem dX9_live_20 : decode cX9_live 20 = .ok (.invokevirtual 170, 3) := by decide +kernel
theorem dX9_live_23 : decode cX9_live 23 = .ok (.iload_n 2, 1) := by decide +kernel
theorem dX9_live_24 : decode cX9_live 24 = .ok (.ifCond .ne 13, 3) := by decide +kernel
theorem dX9_live_27 : decode cX9_live 27 = .ok (.aload_n 0, 1) := by decide +kernel
theorem dX9_live_28 : decode cX9_live 28 = .ok (.getfield 76, 3) := by decide +kernel
theorem dX9_live_31 : decode cX9_live 31 = .ok (.getfield 174, 3) := by decide +kernel
theorem dX9_live_34 : decode cX9_live 34 = .ok (.goto 10, 3) := by decide +kernel
theorem dX9_live_37 : decode cX9_live 37 = .ok (.aload_n 0, 1) := by decide +kernel
theorem dX9_live_38 : decode cX9_live 38 = .ok (.getfield 76, 3) := by decide +kernel
theorem dX9_live_41 : decode cX9_live 41 = .ok (.getfield 177, 3) := by decide +kernel
theorem dX9_live_44 : decode cX9_live 44 = .ok (.ireturn, 1) := by decide +kernel
theorem dX9_cook_0 : decode cX9_cook 0 = .ok (.aload_n 0, 1) := by decide +kernel
theorem dX9_cook_1 : decode cX9_cook 1 = .ok (.iload_n 1, 1) := by decide +kernel
theorem dX9_cook_2 : decode cX9_cook 2 = .ok (.invokevirtual 106, 3) := by decide +kernel
theorem dX9_cook_5 : decode cX9_cook 5 = .ok (.ifCond .eq 10, 3) := by decide +kernel
theorem dX9_cook_8 : decode cX9_cook 8 = .ok (.iload_n 2, 1) := by decide +kernel
theorem dX9_cook_9 : decode cX9_cook 9 = .ok (.invokestatic 84, 3) := by decide +kernel
theorem dX9_cook_12 : decode cX9_cook 12 = .ok (.ifCond .ne 6, 3) := by decide +kernel
theorem dX9_cook_15 : decode cX9_cook 15 = .ok (.bipush (-2), 2) := by decide +kernel
theorem dX9_cook_17 : decode cX9_cook 17 = .ok (.ireturn, 1) := by decide +kernel
theorem dX9_cook_18 : decode cX9_cook 18 = .ok (.aload_n 0, 1) := by decide +kernel
theorem dX9_cook_19 : decode cX9_cook 19 = .ok (.iload_n 1, 1) := by decide +kernel
theorem dX9_cook_20 : decode cX9_cook 20 = .ok (.invokevirtual 180, 3) := by decide +kernel
theorem dX9_cook_23 : decode cX9_cook 23 = .ok (.iload_n 2, 1) := by decide +kernel
theorem dX9_cook_24 : decode cX9_cook 24 = .ok (.ifCond .ne 13, 3) := by decide +kernel
theorem dX9_cook_27 : decode cX9_cook 27 = .ok (.aload_n 0, 1) := by decide +kernel
theorem dX9_cook_28 : decode cX9_cook 28 = .ok (.getfield 76, 3) := by decide +kernel
theorem dX9_cook_31 : decode cX9_cook 31 = .ok (.getfield 174, 3) := by decide +kernel
theorem dX9_cook_34 : decode cX9_cook 34 = .ok (.goto 10, 3) := by decide +kernel
theorem dX9_cook_37 : decode cX9_cook 37 = .ok (.aload_n 0, 1) := by decide +kernel
theorem dX9_cook_38 : decode cX9_cook 38 = .ok (.getfield 76, 3) := by decide +kernel
theorem dX9_cook_41 : decode cX9_cook 41 = .ok (.getfield 177, 3) := by decide +kernel
theorem dX9_cook_44 : decode cX9_cook 44 = .ok (.ireturn, 1) := by decide +kernel
theorem dX9_fast_0 : decode cX9_fast 0 = .ok (.aload_n 0, 1) := by decide +kernel
theorem dX9_fast_1 : decode cX9_fast 1 = .ok (.iload_n 1, 1) := by decide +kernel
theorem dX9_fast_2 : decode cX9_fast 2 = .ok (.invokevirtual 106, 3) := by decide +kernel
theorem dX9_fast_5 : decode cX9_fast 5 = .ok (.ifCond .eq 18, 3) := by decide +kernel
theorem dX9_fast_8 : decode cX9_fast 8 = .ok (.aload_n 0, 1) := by decide +kernel
theorem dX9_fast_9 : decode cX9_fast 9 = .ok (.iload_n 2, 1) := by decide +kernel
theorem dX9_fast_10 : decode cX9_fast 10 = .ok (.invokevirtual 118, 3) := by decide +kernel
theorem dX9_fast_13 : decode cX9_fast 13 = .ok (.ifCond .eq 10, 3) := by decide +kernel
theorem dX9_fast_16 : decode cX9_fast 16 = .ok (.iload_n 3, 1) := by decide +kernel
theorem dX9_fast_17 : decode cX9_fast 17 = .ok (.invokestatic 84, 3) := by decide +kernel
theorem dX9_fast_20 : decode cX9_fast 20 = .ok (.ifCond .ne 6, 3) := by decide +kernel
theorem dX9_fast_23 : decode cX9_fast 23 = .ok (.bipush (-2), 2) := by decide +kernel
theorem dX9_fast_25 : decode cX9_fast 25 = .ok (.ireturn, 1) := by decide +kernel
theorem dX9_fast_26 : decode cX9_fast 26 = .ok (.aload_n 0, 1) := by decide +kernel
theorem dX9_fast_27 : decode cX9_fast 27 = .ok (.iload_n 1, 1) := by decide +kernel
theorem dX9_fast_28 : decode cX9_fast 28 = .ok (.iload_n 2, 1) := by decide +kernel
theorem dX9_fast_29 : decode cX9_fast 29 = .ok (.invokevirtual 183, 3) := by decide +kernel
theorem dX9_fast_32 : decode cX9_fast 32 = .ok (.istore 4, 2) := by decide +kernel
theorem dX9_fast_34 : decode cX9_fast 34 = .ok (.iload_n 3, 1) := by decide +kernel
theorem dX9_fast_35 : decode cX9_fast 35 = .ok (.ifCond .ne 11, 3) := by decide +kernel
theorem dX9_fast_38 : decode cX9_fast 38 = .ok (.iload 4, 2) := by decide +kernel
theorem dX9_fast_40 : decode cX9_fast 40 = .ok (.invokestatic 186, 3) := by decide +kernel
theorem dX9_fast_43 : decode cX9_fast 43 = .ok (.goto 5, 3) := by decide +kernel
theorem dX9_fast_46 : decode cX9_fast 46 = .ok (.iload 4, 2) := by decide +kernel
theorem dX9_fast_48 : decode cX9_fast 48 = .ok (.ireturn, 1) := by decide +kernel
theorem dX9_soup_0 : decode cX9_soup 0 = .ok (.aload_n 0, 1) := by decide +kernel
theorem dX9_soup_1 : decode cX9_soup 1 = .ok (.iload_n 1, 1) := by decide +kernel
theorem dX9_soup_2 : decode cX9_soup 2 = .ok (.invokevirtual 106, 3) := by decide +kernel
theorem dX9_soup_5 : decode cX9_soup 5 = .ok (.ifCond .eq 11, 3) := by decide +kernel
theorem dX9_soup_8 : decode cX9_soup 8 = .ok (.aload_n 0, 1) := by decide +kernel
theorem dX9_soup_9 : decode cX9_soup 9 = .ok (.iload_n 2, 1) := by decide +kernel
theorem dX9_soup_10 : decode cX9_soup 10 = .ok (.invokevirtual 118, 3) := by decide +kernel
theorem dX9_soup_13 : decode cX9_soup 13 = .ok (.ifCond .ne 6, 3) := by decide +kernel
theorem dX9_soup_16 : decode cX9_soup 16 = .ok (.bipush (-2), 2) := by decide +kernel
theorem dX9_soup_18 : decode cX9_soup 18 = .ok (.ireturn, 1) := by decide +kernel
theorem dX9_soup_19 : decode cX9_soup 19 = .ok (.aload_n 0, 1) := by decide +kernel
theorem dX9_soup_20 : decode cX9_soup 20 = .ok (.getfield 63, 3) := by decide +kernel
theorem dX9_soup_23 : decode cX9_soup 23 = .ok (.aload_n 0, 1) := by decide +kernel
theorem dX9_soup_24 : decode cX9_soup 24 = .ok (.getfield 24, 3) := by decide +kernel
theorem dX9_soup_27 : decode cX9_soup 27 = .ok (.invokevirtual 190, 3) := by decide +kernel
theorem dX9_soup_30 : decode cX9_soup 30 = .ok (.iconst 1, 1) := by decide +kernel
theorem dX9_soup_31 : decode cX9_soup 31 = .ok (.istore_n 3, 1) := by decide +kernel
theorem dX9_soup_32 : decode cX9_soup 32 = .ok (.iload_n 3, 1) := by decide +kernel
theorem dX9_soup_33 : decode cX9_soup 33 = .ok (.bipush 9, 2) := by decide +kernel
theorem dX9_soup_35 : decode cX9_soup 35 = .ok (.if_icmp .gt 48, 3) := by decide +kernel
theorem dX9_soup_38 : decode cX9_soup 38 = .ok (.aload_n 0, 1) := by decide +kernel
theorem dX9_soup_39 : decode cX9_soup 39 = .ok (.getfield 63, 3) := by decide +kernel
theorem dX9_soup_42 : decode cX9_soup 42 = .ok (.getfield 112, 3) := by decide +kernel
theorem dX9_soup_45 : decode cX9_soup 45 = .ok (.iload_n 1, 1) := by decide +kernel
theorem dX9_soup_46 : decode cX9_soup 46 = .ok (.iload_n 3, 1) := by decide +kernel
theorem dX9_soup_47 : decode cX9_soup 47 = .ok (.iastore, 1) := by decide +kernel
theorem dX9_soup_48 : decode cX9_soup 48 = .ok (.aload_n 0, 1) := by decide +kernel
theorem dX9_soup_49 : decode cX9_soup 49 = .ok (.getfield 69, 3) := by decide +kernel
theorem dX9_soup_52 : decode cX9_soup 52 = .ok (.aload_n 0, 1) := by decide +kernel
theorem dX9_soup_53 : decode cX9_soup 53 = .ok (.getfield 63, 3) := by decide +kernel
theorem dX9_soup_56 : decode cX9_soup 56 = .ok (.aload_n 0, 1) := by decide +kernel
theorem dX9_soup_57 : decode cX9_soup 57 = .ok (.getfield 31, 3) := by decide +kernel
theorem dX9_soup_60 : decode cX9_soup 60 = .ok (.iload_n 2, 1) := by decide +kernel
theorem dX9_soup_61 : decode cX9_soup 61 = .ok (.invokevirtual 194, 3) := by decide +kernel
theorem dX9_soup_64 : decode cX9_soup 64 = .ok (.aload_n 0, 1) := by decide +kernel
theorem dX9_soup_65 : decode cX9_soup 65 = .ok (.getfield 69, 3) := by decide +kernel
theorem dX9_soup_68 : decode cX9_soup 68 = .ok (.getfield 198, 3) := by decide +kernel
theorem dX9_soup_71 : decode cX9_soup 71 = .ok (.iload_n 1, 1) := by decide +kernel
theorem dX9_soup_72 : decode cX9_soup 72 = .ok (.if_icmp .ne 5, 3) := by decide +kernel
theorem dX9_soup_75 : decode cX9_soup 75 = .ok (.iload_n 3, 1) := by decide +kernel
theorem dX9_soup_76 : decode cX9_soup 76 = .ok (.ireturn, 1) := by decide +kernel
theorem dX9_soup_77 : decode cX9_soup 77 = .ok (.iinc 3 1, 3) := by decide +kernel
theorem dX9_soup_80 : decode cX9_soup 80 = .ok (.goto (-48), 3) := by decide +kernel
theorem dX9_soup_83 : decode cX9_soup 83 = .ok (.iconst (-1), 1) := by decide +kernel
theorem dX9_soup_84 : decode cX9_soup 84 = .ok (.ireturn, 1) := by decide +kernel
theorem dX9_seen_0 : decode cX9_seen 0 = .ok (.aload_n 0, 1) := by decide +kernel
theorem dX9_seen_1 : decode cX9_seen 1 = .ok (.getfield 45, 3) := by decide +kernel
theorem dX9_seen_4 : decode cX9_seen 4 = .ok (.iload_n 1, 1) := by decide +kernel
theorem dX9_seen_5 : decode cX9_seen 5 = .ok (.iload_n 2, 1) := by decide +kernel
theorem dX9_seen_6 : decode cX9_seen 6 = .ok (.invokevirtual 200, 3) := by decide +kernel
theorem dX9_seen_9 : decode cX9_seen 9 = .ok (.ifCond .ne 6, 3) := by decide +kernel
theorem dX9_seen_12 : decode cX9_seen 12 = .ok (.bipush (-2), 2) := by decide +kernel
theorem dX9_seen_14 : decode cX9_seen 14 = .ok (.ireturn, 1) := by decide +kernel
theorem dX9_seen_15 : decode cX9_seen 15 = .ok (.aload_n 0, 1) := by decide +kernel
theorem dX9_seen_16 : decode cX9_seen 16 = .ok (.getfield 45, 3) := by decide +kernel
theorem dX9_seen_19 : decode cX9_seen 19 = .ok (.getfield 204, 3) := by decide +kernel
theorem dX9_seen_22 : decode cX9_seen 22 = .ok (.bipush 8, 2) := by decide +kernel
theorem dX9_seen_24 : decode cX9_seen 24 = .ok (.if_icmp .lt 6, 3) := by decide +kernel
theorem dX9_seen_27 : decode cX9_seen 27 = .ok (.bipush (-4), 2) := by decide +kernel
theorem dX9_seen_29 : decode cX9_seen 29 = .ok (.ireturn, 1) := by decide +kernel
theorem dX9_seen_30 : decode cX9_seen 30 = .ok (.aload_n 0, 1) := by decide +kernel
theorem dX9_seen_31 : decode cX9_seen 31 = .ok (.getfield 45, 3) := by decide +kernel
theorem dX9_seen_34 : decode cX9_seen 34 = .ok (.iload_n 1, 1) := by decide +kernel
theorem dX9_seen_35 : decode cX9_seen 35 = .ok (.iload_n 2, 1) := by decide +kernel
theorem dX9_seen_36 : decode cX9_seen 36 = .ok (.invokevirtual 205, 3) := by decide +kernel
theorem dX9_seen_39 : decode cX9_seen 39 = .ok (.aload_n 0, 1) := by decide +kernel
theorem dX9_seen_40 : decode cX9_seen 40 = .ok (.getfield 45, 3) := by decide +kernel
theorem dX9_seen_43 : decode cX9_seen 43 = .ok (.getfield 204, 3) := by decide +kernel
theorem dX9_seen_46 : decode cX9_seen 46 = .ok (.ireturn, 1) := by decide +kernel
theorem dX9_forget_0 : decode cX9_forget 0 = .ok (.aload_n 0, 1) := by decide +kernel
theorem dX9_forget_1 : decode cX9_forget 1 = .ok (.getfield 45, 3) := by decide +kernel
theorem dX9_forget_4 : decode cX9_forget 4 = .ok (.getfield 204, 3) := by decide +kernel
theorem dX9_forget_7 : decode cX9_forget 7 = .ok (.istore_n 1, 1) := by decide +kernel
theorem dX9_forget_8 : decode cX9_forget 8 = .ok (.aload_n 0, 1) := by decide +kernel
theorem dX9_forget_9 : decode cX9_forget 9 = .ok (.getfield 45, 3) := by decide +kernel
theorem dX9_forget_12 : decode cX9_forget 12 = .ok (.iconst 0, 1) := by decide +kernel
theorem dX9_forget_13 : decode cX9_forget 13 = .ok (.putfield 204, 3) := by decide +kernel
theorem dX9_forget_16 : decode cX9_forget 16 = .ok (.iload_n 1, 1) := by decide +kernel
theorem dX9_forget_17 : decode cX9_forget 17 = .ok (.ireturn, 1) := by decide +kernel
theorem dX9_read_0 : decode cX9_read 0 = .ok (.iload_n 1, 1) := by decide +kernel
theorem dX9_read_1 : decode cX9_read 1 = .ok (.invokestatic 209, 3) := by decide +kernel
theorem dX9_read_4 : decode cX9_read 4 = .ok (.ifCond .ne 6, 3) := by decide +kernel
theorem dX9_read_7 : decode cX9_read 7 = .ok (.bipush (-2), 2) := by decide +kernel
theorem dX9_read_9 : decode cX9_read 9 = .ok (.ireturn, 1) := by decide +kernel
theorem dX9_read_10 : decode cX9_read 10 = .ok (.aload_n 0, 1) := by decide +kernel
theorem dX9_read_11 : decode cX9_read 11 = .ok (.getfield 52, 3) := by decide +kernel
theorem dX9_read_14 : decode cX9_read 14 = .ok (.iload_n 1, 1) := by decide +kernel
theorem dX9_read_15 : decode cX9_read 15 = .ok (.invokevirtual 212, 3) := by decide +kernel
theorem dX9_read_18 : decode cX9_read 18 = .ok (.ifCond .eq 9, 3) := by decide +kernel
theorem dX9_read_21 : decode cX9_read 21 = .ok (.aload_n 0, 1) := by decide +kernel
theorem dX9_read_22 : decode cX9_read 22 = .ok (.iconst 1, 1) := by decide +kernel
theorem dX9_read_23 : decode cX9_read 23 = .ok (.invokevirtual 215, 3) := by decide +kernel
theorem dX9_read_26 : decode cX9_read 26 = .ok (.ireturn, 1) := by decide +kernel
theorem dX9_read_27 : decode cX9_read 27 = .ok (.iconst 0, 1) := by decide +kernel
theorem dX9_read_28 : decode cX9_read 28 = .ok (.istore_n 2, 1) := by decide +kernel
theorem dX9_read_29 : decode cX9_read 29 = .ok (.iconst 0, 1) := by decide +kernel
theorem dX9_read_30 : decode cX9_read 30 = .ok (.istore_n 3, 1) := by decide +kernel
theorem dX9_read_31 : decode cX9_read 31 = .ok (.iload_n 3, 1) := by decide +kernel
theorem dX9_read_32 : decode cX9_read 32 = .ok (.iconst 1, 1) := by decide +kernel
theorem dX9_read_33 : decode cX9_read 33 = .ok (.iadd, 1) := by decide +kernel
theorem dX9_read_34 : decode cX9_read 34 = .ok (.aload_n 0, 1) := by decide +kernel
theorem dX9_read_35 : decode cX9_read 35 = .ok (.getfield 52, 3) := by decide +kernel
theorem dX9_read_38 : decode cX9_read 38 = .ok (.getfield 218, 3) := by decide +kernel
theorem dX9_read_41 : decode cX9_read 41 = .ok (.iload_n 1, 1) := by decide +kernel
theorem dX9_read_42 : decode cX9_read 42 = .ok (.iaload, 1) := by decide +kernel
theorem dX9_read_43 : decode cX9_read 43 = .ok (.if_icmp .ge 76, 3) := by decide +kernel
theorem dX9_read_46 : decode cX9_read 46 = .ok (.aload_n 0, 1) := by decide +kernel
theorem dX9_read_47 : decode cX9_read 47 = .ok (.getfield 52, 3) := by decide +kernel
theorem dX9_read_50 : decode cX9_read 50 = .ok (.iload_n 1, 1) := by decide +kernel
theorem dX9_read_51 : decode cX9_read 51 = .ok (.iload_n 3, 1) := by decide +kernel
theorem dX9_read_52 : decode cX9_read 52 = .ok (.invokevirtual 221, 3) := by decide +kernel
theorem dX9_read_55 : decode cX9_read 55 = .ok (.istore 4, 2) := by decide +kernel
theorem dX9_read_57 : decode cX9_read 57 = .ok (.aload_n 0, 1) := by decide +kernel
theorem dX9_read_58 : decode cX9_read 58 = .ok (.getfield 52, 3) := by decide +kernel
theorem dX9_read_61 : decode cX9_read 61 = .ok (.iload_n 1, 1) := by decide +kernel
theorem dX9_read_62 : decode cX9_read 62 = .ok (.iload_n 3, 1) := by decide +kernel
theorem dX9_read_63 : decode cX9_read 63 = .ok (.iconst 1, 1) := by decide +kernel
theorem dX9_read_64 : decode cX9_read 64 = .ok (.iadd, 1) := by decide +kernel
theorem dX9_read_65 : decode cX9_read 65 = .ok (.invokevirtual 221, 3) := by decide +kernel
theorem dX9_read_68 : decode cX9_read 68 = .ok (.istore 5, 2) := by decide +kernel
theorem dX9_read_70 : decode cX9_read 70 = .ok (.aload_n 0, 1) := by decide +kernel
theorem dX9_read_71 : decode cX9_read 71 = .ok (.getfield 45, 3) := by decide +kernel
theorem dX9_read_74 : decode cX9_read 74 = .ok (.iload 4, 2) := by decide +kernel
theorem dX9_read_76 : decode cX9_read 76 = .ok (.iload 5, 2) := by decide +kernel
theorem dX9_read_78 : decode cX9_read 78 = .ok (.invokevirtual 200, 3) := by decide +kernel
theorem dX9_read_81 : decode cX9_read 81 = .ok (.ifCond .eq 38, 3) := by decide +kernel
theorem dX9_read_84 : decode cX9_read 84 = .ok (.aload_n 0, 1) := by decide +kernel
theorem dX9_read_85 : decode cX9_read 85 = .ok (.getfield 45, 3) := by decide +kernel
theorem dX9_read_88 : decode cX9_read 88 = .ok (.getfield 204, 3) := by decide +kernel
theorem dX9_read_91 : decode cX9_read 91 = .ok (.bipush 8, 2) := by decide +kernel
theorem dX9_read_93 : decode cX9_read 93 = .ok (.if_icmp .lt 6, 3) := by decide +kernel
theorem dX9_read_96 : decode cX9_read 96 = .ok (.goto 23, 3) := by decide +kernel
theorem dX9_read_99 : decode cX9_read 99 = .ok (.aload_n 0, 1) := by decide +kernel
theorem dX9_read_100 : decode cX9_read 100 = .ok (.getfield 45, 3) := by decide +kernel
theorem dX9_read_103 : decode cX9_read 103 = .ok (.iload 4, 2) := by decide +kernel
theorem dX9_read_105 : decode cX9_read 105 = .ok (.iload 5, 2) := by decide +kernel
theorem dX9_read_107 : decode cX9_read 107 = .ok (.invokevirtual 205, 3) := by decide +kernel
theorem dX9_read_110 : decode cX9_read 110 = .ok (.iinc 2 1, 3) := by decide +kernel
theorem dX9_read_113 : decode cX9_read 113 = .ok (.iinc 3 2, 3) := by decide +kernel
theorem dX9_read_116 : decode cX9_read 116 = .ok (.goto (-85), 3) := by decide +kernel
theorem dX9_read_119 : decode cX9_read 119 = .ok (.iload_n 2, 1) := by decide +kernel
theorem dX9_read_120 : decode cX9_read 120 = .ok (.ireturn, 1) := by decide +kernel
theorem dX9_twice_0 : decode cX9_twice 0 = .ok (.iconst 0, 1) := by decide +kernel
theorem dX9_twice_1 : decode cX9_twice 1 = .ok (.istore_n 1, 1) := by decide +kernel
theorem dX9_twice_2 : decode cX9_twice 2 = .ok (.iconst 0, 1) := by decide +kernel
theorem dX9_twice_3 : decode cX9_twice 3 = .ok (.istore_n 2, 1) := by decide +kernel
theorem dX9_twice_4 : decode cX9_twice 4 = .ok (.iload_n 2, 1) := by decide +kernel
theorem dX9_twice_5 : decode cX9_twice 5 = .ok (.aload_n 0, 1) := by decide +kernel
theorem dX9_twice_6 : decode cX9_twice 6 = .ok (.getfield 31, 3) := by decide +kernel
theorem dX9_twice_9 : decode cX9_twice 9 = .ok (.getfield 224, 3) := by decide +kernel
theorem dX9_twice_12 : decode cX9_twice 12 = .ok (.if_icmp .ge 23, 3) := by decide +kernel
theorem dX9_twice_15 : decode cX9_twice 15 = .ok (.aload_n 0, 1) := by decide +kernel
theorem dX9_twice_16 : decode cX9_twice 16 = .ok (.iload_n 2, 1) := by decide +kernel
theorem dX9_twice_17 : decode cX9_twice 17 = .ok (.invokevirtual 225, 3) := by decide +kernel
theorem dX9_twice_20 : decode cX9_twice 20 = .ok (.ifCond .eq 9, 3) := by decide +kernel
theorem dX9_twice_23 : decode cX9_twice 23 = .ok (.iload_n 1, 1) := by decide +kernel
theorem dX9_twice_24 : decode cX9_twice 24 = .ok (.iconst 1, 1) := by decide +kernel
theorem dX9_twice_25 : decode cX9_twice 25 = .ok (.iload_n 2, 1) := by decide +kernel
theorem dX9_twice_26 : decode cX9_twice 26 = .ok (.ishl, 1) := by decide +kernel
theorem dX9_twice_27 : decode cX9_twice 27 = .ok (.ior, 1) := by decide +kernel
theorem dX9_twice_28 : decode cX9_twice 28 = .ok (.istore_n 1, 1) := by decide +kernel
theorem dX9_twice_29 : decode cX9_twice 29 = .ok (.iinc 2 1, 3) := by decide +kernel
theorem dX9_twice_32 : decode cX9_twice 32 = .ok (.goto (-28), 3) := by decide +kernel
theorem dX9_twice_35 : decode cX9_twice 35 = .ok (.iload_n 1, 1) := by decide +kernel
theorem dX9_twice_36 : decode cX9_twice 36 = .ok (.ireturn, 1) := by decide +kernel
theorem dX9_began_0 : decode cX9_began 0 = .ok (.aload_n 0, 1) := by decide +kernel
theorem dX9_began_1 : decode cX9_began 1 = .ok (.iload_n 1, 1) := by decide +kernel
theorem dX9_began_2 : decode cX9_began 2 = .ok (.invokevirtual 118, 3) := by decide +kernel
theorem dX9_began_5 : decode cX9_began 5 = .ok (.ifCond .ne 6, 3) := by decide +kernel
theorem dX9_began_8 : decode cX9_began 8 = .ok (.bipush (-2), 2) := by decide +kernel
theorem dX9_began_10 : decode cX9_began 10 = .ok (.ireturn, 1) := by decide +kernel
theorem dX9_began_11 : decode cX9_began 11 = .ok (.iconst 0, 1) := by decide +kernel
theorem dX9_began_12 : decode cX9_began 12 = .ok (.istore_n 2, 1) := by decide +kernel
theorem dX9_began_13 : decode cX9_began 13 = .ok (.iconst 0, 1) := by decide +kernel
theorem dX9_began_14 : decode cX9_began 14 = .ok (.istore_n 3, 1) := by decide +kernel
theorem dX9_began_15 : decode cX9_began 15 = .ok (.iload_n 3, 1) := by decide +kernel
theorem dX9_began_16 : decode cX9_began 16 = .ok (.bipush 16, 2) := by decide +kernel
theorem dX9_began_18 : decode cX9_began 18 = .ok (.if_icmp .ge 45, 3) := by decide +kernel
theorem dX9_began_21 : decode cX9_began 21 = .ok (.aload_n 0, 1) := by decide +kernel
theorem dX9_began_22 : decode cX9_began 22 = .ok (.getfield 69, 3) := by decide +kernel
theorem dX9_began_25 : decode cX9_began 25 = .ok (.aload_n 0, 1) := by decide +kernel
theorem dX9_began_26 : decode cX9_began 26 = .ok (.getfield 24, 3) := by decide +kernel
theorem dX9_began_29 : decode cX9_began 29 = .ok (.aload_n 0, 1) := by decide +kernel
theorem dX9_began_30 : decode cX9_began 30 = .ok (.getfield 31, 3) := by decide +kernel
theorem dX9_began_33 : decode cX9_began 33 = .ok (.iload_n 1, 1) := by decide +kernel
theorem dX9_began_34 : decode cX9_began 34 = .ok (.iload_n 3, 1) := by decide +kernel
theorem dX9_began_35 : decode cX9_began 35 = .ok (.iconst 1, 1) := by decide +kernel
theorem dX9_began_36 : decode cX9_began 36 = .ok (.ishr, 1) := by decide +kernel
theorem dX9_began_37 : decode cX9_began 37 = .ok (.iload_n 3, 1) := by decide +kernel
theorem dX9_began_38 : decode cX9_began 38 = .ok (.iconst 1, 1) := by decide +kernel
theorem dX9_began_39 : decode cX9_began 39 = .ok (.iand, 1) := by decide +kernel
theorem dX9_began_40 : decode cX9_began 40 = .ok (.invokevirtual 228, 3) := by decide +kernel
theorem dX9_began_43 : decode cX9_began 43 = .ok (.aload_n 0, 1) := by decide +kernel
theorem dX9_began_44 : decode cX9_began 44 = .ok (.iload_n 1, 1) := by decide +kernel
theorem dX9_began_45 : decode cX9_began 45 = .ok (.invokevirtual 232, 3) := by decide +kernel
theorem dX9_began_48 : decode cX9_began 48 = .ok (.ifCond .eq 9, 3) := by decide +kernel
theorem dX9_began_51 : decode cX9_began 51 = .ok (.iload_n 2, 1) := by decide +kernel
theorem dX9_began_52 : decode cX9_began 52 = .ok (.iconst 1, 1) := by decide +kernel
theorem dX9_began_53 : decode cX9_began 53 = .ok (.iload_n 3, 1) := by decide +kernel
theorem dX9_began_54 : decode cX9_began 54 = .ok (.ishl, 1) := by decide +kernel
theorem dX9_began_55 : decode cX9_began 55 = .ok (.ior, 1) := by decide +kernel
theorem dX9_began_56 : decode cX9_began 56 = .ok (.istore_n 2, 1) := by decide +kernel
theorem dX9_began_57 : decode cX9_began 57 = .ok (.iinc 3 1, 3) := by decide +kernel
theorem dX9_began_60 : decode cX9_began 60 = .ok (.goto (-45), 3) := by decide +kernel
theorem dX9_began_63 : decode cX9_began 63 = .ok (.iload_n 2, 1) := by decide +kernel
theorem dX9_began_64 : decode cX9_began 64 = .ok (.ireturn, 1) := by decide +kernel
theorem dX9_ask_0 : decode cX9_ask 0 = .ok (.aload_n 0, 1) := by decide +kernel
theorem dX9_ask_1 : decode cX9_ask 1 = .ok (.invokevirtual 235, 3) := by decide +kernel
theorem dX9_ask_4 : decode cX9_ask 4 = .ok (.istore_n 1, 1) := by decide +kernel
theorem dX9_ask_5 : decode cX9_ask 5 = .ok (.iconst (-1), 1) := by decide +kernel
theorem dX9_ask_6 : decode cX9_ask 6 = .ok (.istore_n 2, 1) := by decide +kernel
theorem dX9_ask_7 : decode cX9_ask 7 = .ok (.iconst 0, 1) := by decide +kernel
theorem dX9_ask_8 : decode cX9_ask 8 = .ok (.istore_n 3, 1) := by decide +kernel
theorem dX9_ask_9 : decode cX9_ask 9 = .ok (.iconst 0, 1) := by decide +kernel
theorem dX9_ask_10 : decode cX9_ask 10 = .ok (.istore 4, 2) := by decide +kernel
theorem dX9_ask_12 : decode cX9_ask 12 = .ok (.iload 4, 2) := by decide +kernel
theorem dX9_ask_14 : decode cX9_ask 14 = .ok (.aload_n 0, 1) := by decide +kernel
theorem dX9_ask_15 : decode cX9_ask 15 = .ok (.getfield 24, 3) := by decide +kernel
theorem dX9_ask_18 : decode cX9_ask 18 = .ok (.getfield 139, 3) := by decide +kernel
theorem dX9_ask_21 : decode cX9_ask 21 = .ok (.if_icmp .ge 35, 3) := by decide +kernel
theorem dX9_ask_24 : decode cX9_ask 24 = .ok (.aload_n 0, 1) := by decide +kernel
theorem dX9_ask_25 : decode cX9_ask 25 = .ok (.iload 4, 2) := by decide +kernel
theorem dX9_ask_27 : decode cX9_ask 27 = .ok (.iload_n 1, 1) := by decide +kernel
theorem dX9_ask_28 : decode cX9_ask 28 = .ok (.invokevirtual 238, 3) := by decide +kernel
theorem dX9_ask_31 : decode cX9_ask 31 = .ok (.istore 5, 2) := by decide +kernel
theorem dX9_ask_33 : decode cX9_ask 33 = .ok (.iload_n 2, 1) := by decide +kernel
theorem dX9_ask_34 : decode cX9_ask 34 = .ok (.iconst (-1), 1) := by decide +kernel
theorem dX9_ask_35 : decode cX9_ask 35 = .ok (.if_icmp .eq 9, 3) := by decide +kernel
theorem dX9_ask_38 : decode cX9_ask 38 = .ok (.iload 5, 2) := by decide +kernel
theorem dX9_ask_40 : decode cX9_ask 40 = .ok (.iload_n 3, 1) := by decide +kernel
theorem dX9_ask_41 : decode cX9_ask 41 = .ok (.if_icmp .ge 9, 3) := by decide +kernel
theorem dX9_ask_44 : decode cX9_ask 44 = .ok (.iload 4, 2) := by decide +kernel
theorem dX9_ask_46 : decode cX9_ask 46 = .ok (.istore_n 2, 1) := by decide +kernel
theorem dX9_ask_47 : decode cX9_ask 47 = .ok (.iload 5, 2) := by decide +kernel
theorem dX9_ask_49 : decode cX9_ask 49 = .ok (.istore_n 3, 1) := by decide +kernel
theorem dX9_ask_50 : decode cX9_ask 50 = .ok (.iinc 4 1, 3) := by decide +kernel
theorem dX9_ask_53 : decode cX9_ask 53 = .ok (.goto (-41), 3) := by decide +kernel
theorem dX9_ask_56 : decode cX9_ask 56 = .ok (.iload_n 2, 1) := by decide +kernel
theorem dX9_ask_57 : decode cX9_ask 57 = .ok (.ireturn, 1) := by decide +kernel
theorem dX9_road_0 : decode cX9_road 0 = .ok (.iload_n 1, 1) := by decide +kernel
theorem dX9_road_1 : decode cX9_road 1 = .ok (.ifCond .lt 36, 3) := by decide +kernel
theorem dX9_road_4 : decode cX9_road 4 = .ok (.iload_n 1, 1) := by decide +kernel
theorem dX9_road_5 : decode cX9_road 5 = .ok (.bipush 16, 2) := by decide +kernel
theorem dX9_road_7 : decode cX9_road 7 = .ok (.if_icmp .gt 30, 3) := by decide +kernel
theorem dX9_road_10 : decode cX9_road 10 = .ok (.aload_n 0, 1) := by decide +kernel
theorem dX9_road_11 : decode cX9_road 11 = .ok (.iload_n 2, 1) := by decide +kernel
theorem dX9_road_12 : decode cX9_road 12 = .ok (.invokevirtual 106, 3) := by decide +kernel
theorem dX9_road_15 : decode cX9_road 15 = .ok (.ifCond .eq 22, 3) := by decide +kernel
theorem dX9_road_18 : decode cX9_road 18 = .ok (.iload_n 3, 1) := by decide +kernel
theorem dX9_road_19 : decode cX9_road 19 = .ok (.ifCond .lt 18, 3) := by decide +kernel
theorem dX9_road_22 : decode cX9_road 22 = .ok (.iload_n 3, 1) := by decide +kernel
theorem dX9_road_23 : decode cX9_road 23 = .ok (.sipush 999, 3) := by decide +kernel
theorem dX9_road_26 : decode cX9_road 26 = .ok (.if_icmp .gt 11, 3) := by decide +kernel
theorem dX9_road_29 : decode cX9_road 29 = .ok (.iload 4, 2) := by decide +kernel
theorem dX9_road_31 : decode cX9_road 31 = .ok (.invokestatic 84, 3) := by decide +kernel
theorem dX9_road_34 : decode cX9_road 34 = .ok (.ifCond .ne 7, 3) := by decide +kernel
theorem dX9_road_37 : decode cX9_road 37 = .ok (.ldc2_w 241, 3) := by decide +kernel
theorem dX9_road_40 : decode cX9_road 40 = .ok (.lreturn, 1) := by decide +kernel
theorem dX9_road_41 : decode cX9_road 41 = .ok (.aload_n 0, 1) := by decide +kernel
theorem dX9_road_42 : decode cX9_road 42 = .ok (.getfield 59, 3) := by decide +kernel
theorem dX9_road_45 : decode cX9_road 45 = .ok (.iload_n 1, 1) := by decide +kernel
theorem dX9_road_46 : decode cX9_road 46 = .ok (.aload_n 0, 1) := by decide +kernel
theorem dX9_road_47 : decode cX9_road 47 = .ok (.getfield 38, 3) := by decide +kernel
theorem dX9_road_50 : decode cX9_road 50 = .ok (.iload_n 2, 1) := by decide +kernel
theorem dX9_road_51 : decode cX9_road 51 = .ok (.aload_n 0, 1) := by decide +kernel
theorem dX9_road_52 : decode cX9_road 52 = .ok (.getfield 31, 3) := by decide +kernel
theorem dX9_road_55 : decode cX9_road 55 = .ok (.getfield 224, 3) := by decide +kernel
theorem dX9_road_58 : decode cX9_road 58 = .ok (.iload_n 3, 1) := by decide +kernel
theorem dX9_road_59 : decode cX9_road 59 = .ok (.invokevirtual 243, 3) := by decide +kernel
theorem dX9_road_62 : decode cX9_road 62 = .ok (.iload 4, 2) := by decide +kernel
theorem dX9_road_64 : decode cX9_road 64 = .ok (.ifCond .ne 13, 3) := by decide +kernel
theorem dX9_road_67 : decode cX9_road 67 = .ok (.aload_n 0, 1) := by decide +kernel
theorem dX9_road_68 : decode cX9_road 68 = .ok (.getfield 59, 3) := by decide +kernel
theorem dX9_road_71 : decode cX9_road 71 = .ok (.getfield 247, 3) := by decide +kernel
theorem dX9_road_74 : decode cX9_road 74 = .ok (.goto 10, 3) := by decide +kernel
theorem dX9_road_77 : decode cX9_road 77 = .ok (.aload_n 0, 1) := by decide +kernel
theorem dX9_road_78 : decode cX9_road 78 = .ok (.getfield 59, 3) := by decide +kernel
theorem dX9_road_81 : decode cX9_road 81 = .ok (.getfield 251, 3) := by decide +kernel
theorem dX9_road_84 : decode cX9_road 84 = .ok (.lreturn, 1) := by decide +kernel
theorem dX9_season_0 : decode cX9_season 0 = .ok (.iload_n 2, 1) := by decide +kernel
theorem dX9_season_1 : decode cX9_season 1 = .ok (.iconst 1, 1) := by decide +kernel
theorem dX9_season_2 : decode cX9_season 2 = .ok (.if_icmp .lt 25, 3) := by decide +kernel
theorem dX9_season_5 : decode cX9_season 5 = .ok (.iload_n 2, 1) := by decide +kernel
theorem dX9_season_6 : decode cX9_season 6 = .ok (.bipush 99, 2) := by decide +kernel
theorem dX9_season_8 : decode cX9_season 8 = .ok (.if_icmp .gt 19, 3) := by decide +kernel
theorem dX9_season_11 : decode cX9_season 11 = .ok (.aload_n 0, 1) := by decide +kernel
theorem dX9_season_12 : decode cX9_season 12 = .ok (.iload_n 3, 1) := by decide +kernel
theorem dX9_season_13 : decode cX9_season 13 = .ok (.invokevirtual 106, 3) := by decide +kernel
theorem dX9_season_16 : decode cX9_season 16 = .ok (.ifCond .eq 11, 3) := by decide +kernel
theorem dX9_season_19 : decode cX9_season 19 = .ok (.iload 4, 2) := by decide +kernel
theorem dX9_season_21 : decode cX9_season 21 = .ok (.invokestatic 84, 3) := by decide +kernel
theorem dX9_season_24 : decode cX9_season 24 = .ok (.ifCond .ne 6, 3) := by decide +kernel
theorem dX9_season_27 : decode cX9_season 27 = .ok (.bipush (-2), 2) := by decide +kernel
theorem dX9_season_29 : decode cX9_season 29 = .ok (.ireturn, 1) := by decide +kernel
theorem dX9_season_30 : decode cX9_season 30 = .ok (.aload_n 0, 1) := by decide +kernel
theorem dX9_season_31 : decode cX9_season 31 = .ok (.getfield 31, 3) := by decide +kernel
theorem dX9_season_34 : decode cX9_season 34 = .ok (.getfield 224, 3) := by decide +kernel
theorem dX9_season_37 : decode cX9_season 37 = .ok (.ifCond .ne 5, 3) := by decide +kernel
theorem dX9_season_40 : decode cX9_season 40 = .ok (.iconst 0, 1) := by decide +kernel
theorem dX9_season_41 : decode cX9_season 41 = .ok (.ireturn, 1) := by decide +kernel
theorem dX9_season_42 : decode cX9_season 42 = .ok (.iconst 0, 1) := by decide +kernel
theorem dX9_season_43 : decode cX9_season 43 = .ok (.istore 5, 2) := by decide +kernel
theorem dX9_season_45 : decode cX9_season 45 = .ok (.iload_n 1, 1) := by decide +kernel
theorem dX9_season_46 : decode cX9_season 46 = .ok (.istore 6, 2) := by decide +kernel
theorem dX9_season_48 : decode cX9_season 48 = .ok (.iconst 0, 1) := by decide +kernel
theorem dX9_season_49 : decode cX9_season 49 = .ok (.istore 7, 2) := by decide +kernel
theorem dX9_season_51 : decode cX9_season 51 = .ok (.iload 7, 2) := by decide +kernel
theorem dX9_season_53 : decode cX9_season 53 = .ok (.iload_n 2, 1) := by decide +kernel
theorem dX9_season_54 : decode cX9_season 54 = .ok (.if_icmp .ge 75, 3) := by decide +kernel
theorem dX9_season_57 : decode cX9_season 57 = .ok (.ldc 254, 2) := by decide +kernel
theorem dX9_season_59 : decode cX9_season 59 = .ok (.iload 6, 2) := by decide +kernel
theorem dX9_season_61 : decode cX9_season 61 = .ok (.imul, 1) := by decide +kernel
theorem dX9_season_62 : decode cX9_season 62 = .ok (.sipush 12345, 3) := by decide +kernel
theorem dX9_season_65 : decode cX9_season 65 = .ok (.iadd, 1) := by decide +kernel
theorem dX9_season_66 : decode cX9_season 66 = .ok (.istore 6, 2) := by decide +kernel
theorem dX9_season_68 : decode cX9_season 68 = .ok (.iload 6, 2) := by decide +kernel
theorem dX9_season_70 : decode cX9_season 70 = .ok (.bipush 16, 2) := by decide +kernel
theorem dX9_season_72 : decode cX9_season 72 = .ok (.iushr, 1) := by decide +kernel
theorem dX9_season_73 : decode cX9_season 73 = .ok (.aload_n 0, 1) := by decide +kernel
theorem dX9_season_74 : decode cX9_season 74 = .ok (.getfield 31, 3) := by decide +kernel
theorem dX9_season_77 : decode cX9_season 77 = .ok (.getfield 224, 3) := by decide +kernel
theorem dX9_season_80 : decode cX9_season 80 = .ok (.irem, 1) := by decide +kernel
theorem dX9_season_81 : decode cX9_season 81 = .ok (.istore 8, 2) := by decide +kernel
theorem dX9_season_83 : decode cX9_season 83 = .ok (.iload 4, 2) := by decide +kernel
theorem dX9_season_85 : decode cX9_season 85 = .ok (.ifCond .ne 21, 3) := by decide +kernel
theorem dX9_season_88 : decode cX9_season 88 = .ok (.iload 5, 2) := by decide +kernel
theorem dX9_season_90 : decode cX9_season 90 = .ok (.aload_n 0, 1) := by decide +kernel
theorem dX9_season_91 : decode cX9_season 91 = .ok (.getfield 38, 3) := by decide +kernel
theorem dX9_season_94 : decode cX9_season 94 = .ok (.iload 8, 2) := by decide +kernel
theorem dX9_season_96 : decode cX9_season 96 = .ok (.iload_n 3, 1) := by decide +kernel
theorem dX9_season_97 : decode cX9_season 97 = .ok (.invokevirtual 145, 3) := by decide +kernel
theorem dX9_season_100 : decode cX9_season 100 = .ok (.iadd, 1) := by decide +kernel
theorem dX9_season_101 : decode cX9_season 101 = .ok (.istore 5, 2) := by decide +kernel
theorem dX9_season_103 : decode cX9_season 103 = .ok (.goto 20, 3) := by decide +kernel
theorem dX9_season_106 : decode cX9_season 106 = .ok (.aload_n 0, 1) := by decide +kernel
theorem dX9_season_107 : decode cX9_season 107 = .ok (.getfield 38, 3) := by decide +kernel
theorem dX9_season_110 : decode cX9_season 110 = .ok (.getfield 149, 3) := by decide +kernel
theorem dX9_season_113 : decode cX9_season 113 = .ok (.iload 8, 2) := by decide +kernel
theorem dX9_season_115 : decode cX9_season 115 = .ok (.iaload, 1) := by decide +kernel
theorem dX9_season_116 : decode cX9_season 116 = .ok (.iload_n 3, 1) := by decide +kernel
theorem dX9_season_117 : decode cX9_season 117 = .ok (.if_icmp .ne 6, 3) := by decide +kernel
theorem dX9_season_120 : decode cX9_season 120 = .ok (.iinc 5 1, 3) := by decide +kernel
theorem dX9_season_123 : decode cX9_season 123 = .ok (.iinc 7 1, 3) := by decide +kernel
theorem dX9_season_126 : decode cX9_season 126 = .ok (.goto (-75), 3) := by decide +kernel
theorem dX9_season_129 : decode cX9_season 129 = .ok (.iload 5, 2) := by decide +kernel
theorem dX9_season_131 : decode cX9_season 131 = .ok (.ireturn, 1) := by decide +kernel
theorem dX9_sheet_0 : decode cX9_sheet 0 = .ok (.iload_n 1, 1) := by decide +kernel
theorem dX9_sheet_1 : decode cX9_sheet 1 = .ok (.invokestatic 209, 3) := by decide +kernel
theorem dX9_sheet_4 : decode cX9_sheet 4 = .ok (.ifCond .eq 16, 3) := by decide +kernel
theorem dX9_sheet_7 : decode cX9_sheet 7 = .ok (.iload_n 2, 1) := by decide +kernel
theorem dX9_sheet_8 : decode cX9_sheet 8 = .ok (.invokestatic 255, 3) := by decide +kernel
theorem dX9_sheet_11 : decode cX9_sheet 11 = .ok (.ifCond .eq 9, 3) := by decide +kernel
theorem dX9_sheet_14 : decode cX9_sheet 14 = .ok (.iload_n 3, 1) := by decide +kernel
theorem dX9_sheet_15 : decode cX9_sheet 15 = .ok (.bipush 60, 2) := by decide +kernel
theorem dX9_sheet_17 : decode cX9_sheet 17 = .ok (.if_icmp .le 6, 3) := by decide +kernel
theorem dX9_sheet_20 : decode cX9_sheet 20 = .ok (.bipush (-2), 2) := by decide +kernel
theorem dX9_sheet_22 : decode cX9_sheet 22 = .ok (.ireturn, 1) := by decide +kernel
theorem dX9_sheet_23 : decode cX9_sheet 23 = .ok (.iload_n 3, 1) := by decide +kernel
theorem dX9_sheet_24 : decode cX9_sheet 24 = .ok (.ifCond .ge 9, 3) := by decide +kernel
theorem dX9_sheet_27 : decode cX9_sheet 27 = .ok (.aload_n 0, 1) := by decide +kernel
theorem dX9_sheet_28 : decode cX9_sheet 28 = .ok (.iconst 5, 1) := by decide +kernel
theorem dX9_sheet_29 : decode cX9_sheet 29 = .ok (.invokevirtual 215, 3) := by decide +kernel
theorem dX9_sheet_32 : decode cX9_sheet 32 = .ok (.ireturn, 1) := by decide +kernel
theorem dX9_sheet_33 : decode cX9_sheet 33 = .ok (.aload_n 0, 1) := by decide +kernel
theorem dX9_sheet_34 : decode cX9_sheet 34 = .ok (.getfield 52, 3) := by decide +kernel
theorem dX9_sheet_37 : decode cX9_sheet 37 = .ok (.iload_n 1, 1) := by decide +kernel
theorem dX9_sheet_38 : decode cX9_sheet 38 = .ok (.iload_n 2, 1) := by decide +kernel
theorem dX9_sheet_39 : decode cX9_sheet 39 = .ok (.iload_n 3, 1) := by decide +kernel
theorem dX9_sheet_40 : decode cX9_sheet 40 = .ok (.invokevirtual 258, 3) := by decide +kernel
theorem dX9_sheet_43 : decode cX9_sheet 43 = .ok (.iload_n 3, 1) := by decide +kernel
theorem dX9_sheet_44 : decode cX9_sheet 44 = .ok (.ireturn, 1) := by decide +kernel
theorem dX9_lose_0 : decode cX9_lose 0 = .ok (.iload_n 1, 1) := by decide +kernel
theorem dX9_lose_1 : decode cX9_lose 1 = .ok (.invokestatic 209, 3) := by decide +kernel
theorem dX9_lose_4 : decode cX9_lose 4 = .ok (.ifCond .ne 6, 3) := by decide +kernel
theorem dX9_lose_7 : decode cX9_lose 7 = .ok (.bipush (-2), 2) := by decide +kernel
theorem dX9_lose_9 : decode cX9_lose 9 = .ok (.ireturn, 1) := by decide +kernel
theorem dX9_lose_10 : decode cX9_lose 10 = .ok (.aload_n 0, 1) := by decide +kernel
theorem dX9_lose_11 : decode cX9_lose 11 = .ok (.getfield 52, 3) := by decide +kernel
theorem dX9_lose_14 : decode cX9_lose 14 = .ok (.iload_n 1, 1) := by decide +kernel
theorem dX9_lose_15 : decode cX9_lose 15 = .ok (.invokevirtual 212, 3) := by decide +kernel
theorem dX9_lose_18 : decode cX9_lose 18 = .ok (.ifCond .eq 9, 3) := by decide +kernel
theorem dX9_lose_21 : decode cX9_lose 21 = .ok (.aload_n 0, 1) := by decide +kernel
theorem dX9_lose_22 : decode cX9_lose 22 = .ok (.iconst 1, 1) := by decide +kernel
theorem dX9_lose_23 : decode cX9_lose 23 = .ok (.invokevirtual 215, 3) := by decide +kernel
theorem dX9_lose_26 : decode cX9_lose 26 = .ok (.ireturn, 1) := by decide +kernel
theorem dX9_lose_27 : decode cX9_lose 27 = .ok (.aload_n 0, 1) := by decide +kernel
theorem dX9_lose_28 : decode cX9_lose 28 = .ok (.getfield 52, 3) := by decide +kernel
theorem dX9_lose_31 : decode cX9_lose 31 = .ok (.getfield 218, 3) := by decide +kernel
theorem dX9_lose_34 : decode cX9_lose 34 = .ok (.iload_n 1, 1) := by decide +kernel
theorem dX9_lose_35 : decode cX9_lose 35 = .ok (.iaload, 1) := by decide +kernel
theorem dX9_lose_36 : decode cX9_lose 36 = .ok (.istore_n 2, 1) := by decide +kernel
theorem dX9_lose_37 : decode cX9_lose 37 = .ok (.aload_n 0, 1) := by decide +kernel
theorem dX9_lose_38 : decode cX9_lose 38 = .ok (.getfield 52, 3) := by decide +kernel
theorem dX9_lose_41 : decode cX9_lose 41 = .ok (.getfield 218, 3) := by decide +kernel
theorem dX9_lose_44 : decode cX9_lose 44 = .ok (.iload_n 1, 1) := by decide +kernel
theorem dX9_lose_45 : decode cX9_lose 45 = .ok (.iconst (-1), 1) := by decide +kernel
theorem dX9_lose_46 : decode cX9_lose 46 = .ok (.iastore, 1) := by decide +kernel
theorem dX9_lose_47 : decode cX9_lose 47 = .ok (.iload_n 2, 1) := by decide +kernel
theorem dX9_lose_48 : decode cX9_lose 48 = .ok (.ireturn, 1) := by decide +kernel
theorem dX9_lay_0 : decode cX9_lay 0 = .ok (.iload_n 1, 1) := by decide +kernel
theorem dX9_lay_1 : decode cX9_lay 1 = .ok (.invokestatic 209, 3) := by decide +kernel
theorem dX9_lay_4 : decode cX9_lay 4 = .ok (.ifCond .eq 10, 3) := by decide +kernel
theorem dX9_lay_7 : decode cX9_lay 7 = .ok (.iload_n 2, 1) := by decide +kernel
theorem dX9_lay_8 : decode cX9_lay 8 = .ok (.invokestatic 255, 3) := by decide +kernel
theorem dX9_lay_11 : decode cX9_lay 11 = .ok (.ifCond .ne 6, 3) := by decide +kernel
theorem dX9_lay_14 : decode cX9_lay 14 = .ok (.bipush (-2), 2) := by decide +kernel
theorem dX9_lay_16 : decode cX9_lay 16 = .ok (.ireturn, 1) := by decide +kernel
theorem dX9_lay_17 : decode cX9_lay 17 = .ok (.aload_n 0, 1) := by decide +kernel
theorem dX9_lay_18 : decode cX9_lay 18 = .ok (.iload_n 1, 1) := by decide +kernel
theorem dX9_lay_19 : decode cX9_lay 19 = .ok (.iload_n 2, 1) := by decide +kernel
theorem dX9_lay_20 : decode cX9_lay 20 = .ok (.iload_n 3, 1) := by decide +kernel
theorem dX9_lay_21 : decode cX9_lay 21 = .ok (.invokevirtual 262, 3) := by decide +kernel
theorem dX9_lay_24 : decode cX9_lay 24 = .ok (.istore 5, 2) := by decide +kernel
theorem dX9_lay_26 : decode cX9_lay 26 = .ok (.iload 5, 2) := by decide +kernel
theorem dX9_lay_28 : decode cX9_lay 28 = .ok (.ifCond .eq 10, 3) := by decide +kernel
theorem dX9_lay_31 : decode cX9_lay 31 = .ok (.aload_n 0, 1) := by decide +kernel
theorem dX9_lay_32 : decode cX9_lay 32 = .ok (.iload 5, 2) := by decide +kernel
theorem dX9_lay_34 : decode cX9_lay 34 = .ok (.invokevirtual 215, 3) := by decide +kernel
theorem dX9_lay_37 : decode cX9_lay 37 = .ok (.ireturn, 1) := by decide +kernel
theorem dX9_lay_38 : decode cX9_lay 38 = .ok (.aload_n 0, 1) := by decide +kernel
theorem dX9_lay_39 : decode cX9_lay 39 = .ok (.getfield 52, 3) := by decide +kernel
theorem dX9_lay_42 : decode cX9_lay 42 = .ok (.iload_n 1, 1) := by decide +kernel
theorem dX9_lay_43 : decode cX9_lay 43 = .ok (.iload_n 3, 1) := by decide +kernel
theorem dX9_lay_44 : decode cX9_lay 44 = .ok (.iload 4, 2) := by decide +kernel
theorem dX9_lay_46 : decode cX9_lay 46 = .ok (.invokevirtual 266, 3) := by decide +kernel
theorem dX9_lay_49 : decode cX9_lay 49 = .ok (.iconst 1, 1) := by decide +kernel
theorem dX9_lay_50 : decode cX9_lay 50 = .ok (.ireturn, 1) := by decide +kernel
theorem dX9_get_0 : decode cX9_get 0 = .ok (.iload_n 1, 1) := by decide +kernel
theorem dX9_get_1 : decode cX9_get 1 = .ok (.invokestatic 209, 3) := by decide +kernel
theorem dX9_get_4 : decode cX9_get 4 = .ok (.ifCond .eq 10, 3) := by decide +kernel
theorem dX9_get_7 : decode cX9_get 7 = .ok (.iload_n 2, 1) := by decide +kernel
theorem dX9_get_8 : decode cX9_get 8 = .ok (.invokestatic 255, 3) := by decide +kernel
theorem dX9_get_11 : decode cX9_get 11 = .ok (.ifCond .ne 7, 3) := by decide +kernel
theorem dX9_get_14 : decode cX9_get 14 = .ok (.ldc_w 269, 3) := by decide +kernel
theorem dX9_get_17 : decode cX9_get 17 = .ok (.ireturn, 1) := by decide +kernel
theorem dX9_get_18 : decode cX9_get 18 = .ok (.aload_n 0, 1) := by decide +kernel
theorem dX9_get_19 : decode cX9_get 19 = .ok (.iload_n 1, 1) := by decide +kernel
theorem dX9_get_20 : decode cX9_get 20 = .ok (.iload_n 2, 1) := by decide +kernel
theorem dX9_get_21 : decode cX9_get 21 = .ok (.iload_n 3, 1) := by decide +kernel
theorem dX9_get_22 : decode cX9_get 22 = .ok (.invokevirtual 262, 3) := by decide +kernel
theorem dX9_get_25 : decode cX9_get 25 = .ok (.istore 4, 2) := by decide +kernel
theorem dX9_get_27 : decode cX9_get 27 = .ok (.iload 4, 2) := by decide +kernel
theorem dX9_get_29 : decode cX9_get 29 = .ok (.ifCond .eq 13, 3) := by decide +kernel
theorem dX9_get_32 : decode cX9_get 32 = .ok (.aload_n 0, 1) := by decide +kernel
theorem dX9_get_33 : decode cX9_get 33 = .ok (.iload 4, 2) := by decide +kernel
theorem dX9_get_35 : decode cX9_get 35 = .ok (.putfield 80, 3) := by decide +kernel
theorem dX9_get_38 : decode cX9_get 38 = .ok (.ldc_w 269, 3) := by decide +kernel
theorem dX9_get_41 : decode cX9_get 41 = .ok (.ireturn, 1) := by decide +kernel
theorem dX9_get_42 : decode cX9_get 42 = .ok (.aload_n 0, 1) := by decide +kernel
theorem dX9_get_43 : decode cX9_get 43 = .ok (.getfield 52, 3) := by decide +kernel
theorem dX9_get_46 : decode cX9_get 46 = .ok (.iload_n 1, 1) := by decide +kernel
theorem dX9_get_47 : decode cX9_get 47 = .ok (.iload_n 3, 1) := by decide +kernel
theorem dX9_get_48 : decode cX9_get 48 = .ok (.invokevirtual 221, 3) := by decide +kernel
theorem dX9_get_51 : decode cX9_get 51 = .ok (.ireturn, 1) := by decide +kernel
theorem dX9_copy_0 : decode cX9_copy 0 = .ok (.iload_n 1, 1) := by decide +kernel
theorem dX9_copy_1 : decode cX9_copy 1 = .ok (.invokestatic 209, 3) := by decide +kernel
theorem dX9_copy_4 : decode cX9_copy 4 = .ok (.ifCond .eq 10, 3) := by decide +kernel
theorem dX9_copy_7 : decode cX9_copy 7 = .ok (.iload_n 3, 1) := by decide +kernel
theorem dX9_copy_8 : decode cX9_copy 8 = .ok (.invokestatic 209, 3) := by decide +kernel
theorem dX9_copy_11 : decode cX9_copy 11 = .ok (.ifCond .ne 6, 3) := by decide +kernel
theorem dX9_copy_14 : decode cX9_copy 14 = .ok (.bipush (-2), 2) := by decide +kernel
theorem dX9_copy_16 : decode cX9_copy 16 = .ok (.ireturn, 1) := by decide +kernel
theorem dX9_copy_17 : decode cX9_copy 17 = .ok (.aload_n 0, 1) := by decide +kernel
theorem dX9_copy_18 : decode cX9_copy 18 = .ok (.getfield 52, 3) := by decide +kernel
theorem dX9_copy_21 : decode cX9_copy 21 = .ok (.iload_n 1, 1) := by decide +kernel
theorem dX9_copy_22 : decode cX9_copy 22 = .ok (.invokevirtual 212, 3) := by decide +kernel
theorem dX9_copy_25 : decode cX9_copy 25 = .ok (.ifCond .ne 14, 3) := by decide +kernel
theorem dX9_copy_28 : decode cX9_copy 28 = .ok (.aload_n 0, 1) := by decide +kernel
theorem dX9_copy_29 : decode cX9_copy 29 = .ok (.getfield 52, 3) := by decide +kernel
theorem dX9_copy_32 : decode cX9_copy 32 = .ok (.iload_n 3, 1) := by decide +kernel
theorem dX9_copy_33 : decode cX9_copy 33 = .ok (.invokevirtual 212, 3) := by decide +kernel
theorem dX9_copy_36 : decode cX9_copy 36 = .ok (.ifCond .eq 9, 3) := by decide +kernel
theorem dX9_copy_39 : decode cX9_copy 39 = .ok (.aload_n 0, 1) := by decide +kernel
theorem dX9_copy_40 : decode cX9_copy 40 = .ok (.iconst 1, 1) := by decide +kernel
theorem dX9_copy_41 : decode cX9_copy 41 = .ok (.invokevirtual 215, 3) := by decide +kernel
theorem dX9_copy_44 : decode cX9_copy 44 = .ok (.ireturn, 1) := by decide +kernel
theorem dX9_copy_45 : decode cX9_copy 45 = .ok (.aload_n 0, 1) := by decide +kernel
theorem dX9_copy_46 : decode cX9_copy 46 = .ok (.getfield 52, 3) := by decide +kernel
theorem dX9_copy_49 : decode cX9_copy 49 = .ok (.getfield 270, 3) := by decide +kernel
theorem dX9_copy_52 : decode cX9_copy 52 = .ok (.iload_n 1, 1) := by decide +kernel
theorem dX9_copy_53 : decode cX9_copy 53 = .ok (.iaload, 1) := by decide +kernel
theorem dX9_copy_54 : decode cX9_copy 54 = .ok (.aload_n 0, 1) := by decide +kernel
theorem dX9_copy_55 : decode cX9_copy 55 = .ok (.getfield 52, 3) := by decide +kernel
theorem dX9_copy_58 : decode cX9_copy 58 = .ok (.getfield 270, 3) := by decide +kernel
theorem dX9_copy_61 : decode cX9_copy 61 = .ok (.iload_n 3, 1) := by decide +kernel
theorem dX9_copy_62 : decode cX9_copy 62 = .ok (.iaload, 1) := by decide +kernel
theorem dX9_copy_63 : decode cX9_copy 63 = .ok (.if_icmp .eq 9, 3) := by decide +kernel
theorem dX9_copy_66 : decode cX9_copy 66 = .ok (.aload_n 0, 1) := by decide +kernel
theorem dX9_copy_67 : decode cX9_copy 67 = .ok (.iconst 4, 1) := by decide +kernel
theorem dX9_copy_68 : decode cX9_copy 68 = .ok (.invokevirtual 215, 3) := by decide +kernel
theorem dX9_copy_71 : decode cX9_copy 71 = .ok (.ireturn, 1) := by decide +kernel
theorem dX9_copy_72 : decode cX9_copy 72 = .ok (.aload_n 0, 1) := by decide +kernel
theorem dX9_copy_73 : decode cX9_copy 73 = .ok (.getfield 52, 3) := by decide +kernel
theorem dX9_copy_76 : decode cX9_copy 76 = .ok (.iload_n 1, 1) := by decide +kernel
theorem dX9_copy_77 : decode cX9_copy 77 = .ok (.iload_n 2, 1) := by decide +kernel
theorem dX9_copy_78 : decode cX9_copy 78 = .ok (.iload 5, 2) := by decide +kernel
theorem dX9_copy_80 : decode cX9_copy 80 = .ok (.invokevirtual 273, 3) := by decide +kernel
theorem dX9_copy_83 : decode cX9_copy 83 = .ok (.ifCond .eq 18, 3) := by decide +kernel
theorem dX9_copy_86 : decode cX9_copy 86 = .ok (.aload_n 0, 1) := by decide +kernel
theorem dX9_copy_87 : decode cX9_copy 87 = .ok (.getfield 52, 3) := by decide +kernel
theorem dX9_copy_90 : decode cX9_copy 90 = .ok (.iload_n 3, 1) := by decide +kernel
theorem dX9_copy_91 : decode cX9_copy 91 = .ok (.iload 4, 2) := by decide +kernel
theorem dX9_copy_93 : decode cX9_copy 93 = .ok (.iload 5, 2) := by decide +kernel
theorem dX9_copy_95 : decode cX9_copy 95 = .ok (.invokevirtual 273, 3) := by decide +kernel
theorem dX9_copy_98 : decode cX9_copy 98 = .ok (.ifCond .ne 9, 3) := by decide +kernel
theorem dX9_copy_101 : decode cX9_copy 101 = .ok (.aload_n 0, 1) := by decide +kernel
theorem dX9_copy_102 : decode cX9_copy 102 = .ok (.iconst 2, 1) := by decide +kernel
theorem dX9_copy_103 : decode cX9_copy 103 = .ok (.invokevirtual 215, 3) := by decide +kernel
theorem dX9_copy_106 : decode cX9_copy 106 = .ok (.ireturn, 1) := by decide +kernel
theorem dX9_copy_107 : decode cX9_copy 107 = .ok (.aload_n 0, 1) := by decide +kernel
theorem dX9_copy_108 : decode cX9_copy 108 = .ok (.getfield 52, 3) := by decide +kernel
theorem dX9_copy_111 : decode cX9_copy 111 = .ok (.iload_n 1, 1) := by decide +kernel
theorem dX9_copy_112 : decode cX9_copy 112 = .ok (.iload_n 2, 1) := by decide +kernel
theorem dX9_copy_113 : decode cX9_copy 113 = .ok (.iload_n 3, 1) := by decide +kernel
theorem dX9_copy_114 : decode cX9_copy 114 = .ok (.iload 4, 2) := by decide +kernel
theorem dX9_copy_116 : decode cX9_copy 116 = .ok (.iload 5, 2) := by decide +kernel
theorem dX9_copy_118 : decode cX9_copy 118 = .ok (.invokevirtual 277, 3) := by decide +kernel
theorem dX9_copy_121 : decode cX9_copy 121 = .ok (.iconst 1, 1) := by decide +kernel
theorem dX9_copy_122 : decode cX9_copy 122 = .ok (.ireturn, 1) := by decide +kernel
theorem dX9_write_0 : decode cX9_write 0 = .ok (.iload_n 1, 1) := by decide +kernel
theorem dX9_write_1 : decode cX9_write 1 = .ok (.invokestatic 84, 3) := by decide +kernel
theorem dX9_write_4 : decode cX9_write 4 = .ok (.ifCond .eq 10, 3) := by decide +kernel
theorem dX9_write_7 : decode cX9_write 7 = .ok (.iload_n 2, 1) := by decide +kernel
theorem dX9_write_8 : decode cX9_write 8 = .ok (.invokestatic 209, 3) := by decide +kernel
theorem dX9_write_11 : decode cX9_write 11 = .ok (.ifCond .ne 6, 3) := by decide +kernel
theorem dX9_write_14 : decode cX9_write 14 = .ok (.bipush (-2), 2) := by decide +kernel
theorem dX9_write_16 : decode cX9_write 16 = .ok (.ireturn, 1) := by decide +kernel
theorem dX9_write_17 : decode cX9_write 17 = .ok (.aload_n 0, 1) := by decide +kernel
theorem dX9_write_18 : decode cX9_write 18 = .ok (.getfield 52, 3) := by decide +kernel
theorem dX9_write_21 : decode cX9_write 21 = .ok (.iload_n 2, 1) := by decide +kernel
theorem dX9_write_22 : decode cX9_write 22 = .ok (.invokevirtual 212, 3) := by decide +kernel
theorem dX9_write_25 : decode cX9_write 25 = .ok (.ifCond .eq 9, 3) := by decide +kernel
theorem dX9_write_28 : decode cX9_write 28 = .ok (.aload_n 0, 1) := by decide +kernel
theorem dX9_write_29 : decode cX9_write 29 = .ok (.iconst 1, 1) := by decide +kernel
theorem dX9_write_30 : decode cX9_write 30 = .ok (.invokevirtual 215, 3) := by decide +kernel
theorem dX9_write_33 : decode cX9_write 33 = .ok (.ireturn, 1) := by decide +kernel
theorem dX9_write_34 : decode cX9_write 34 = .ok (.aload_n 0, 1) := by decide +kernel
theorem dX9_write_35 : decode cX9_write 35 = .ok (.getfield 52, 3) := by decide +kernel
theorem dX9_write_38 : decode cX9_write 38 = .ok (.getfield 218, 3) := by decide +kernel
theorem dX9_write_41 : decode cX9_write 41 = .ok (.iload_n 2, 1) := by decide +kernel
theorem dX9_write_42 : decode cX9_write 42 = .ok (.iaload, 1) := by decide +kernel
theorem dX9_write_43 : decode cX9_write 43 = .ok (.aload_n 0, 1) := by decide +kernel
theorem dX9_write_44 : decode cX9_write 44 = .ok (.getfield 24, 3) := by decide +kernel
theorem dX9_write_47 : decode cX9_write 47 = .ok (.getfield 139, 3) := by decide +kernel
theorem dX9_write_50 : decode cX9_write 50 = .ok (.invokestatic 281, 3) := by decide +kernel
theorem dX9_write_53 : decode cX9_write 53 = .ok (.istore_n 3, 1) := by decide +kernel
theorem dX9_write_54 : decode cX9_write 54 = .ok (.iconst 0, 1) := by decide +kernel
theorem dX9_write_55 : decode cX9_write 55 = .ok (.istore 4, 2) := by decide +kernel
theorem dX9_write_57 : decode cX9_write 57 = .ok (.iload 4, 2) := by decide +kernel
theorem dX9_write_59 : decode cX9_write 59 = .ok (.iload_n 3, 1) := by decide +kernel
theorem dX9_write_60 : decode cX9_write 60 = .ok (.if_icmp .ge 46, 3) := by decide +kernel
theorem dX9_write_63 : decode cX9_write 63 = .ok (.aload_n 0, 1) := by decide +kernel
theorem dX9_write_64 : decode cX9_write 64 = .ok (.getfield 52, 3) := by decide +kernel
theorem dX9_write_67 : decode cX9_write 67 = .ok (.iload_n 2, 1) := by decide +kernel
theorem dX9_write_68 : decode cX9_write 68 = .ok (.iload 4, 2) := by decide +kernel
theorem dX9_write_70 : decode cX9_write 70 = .ok (.iload_n 1, 1) := by decide +kernel
theorem dX9_write_71 : decode cX9_write 71 = .ok (.ifCond .ne 16, 3) := by decide +kernel
theorem dX9_write_74 : decode cX9_write 74 = .ok (.aload_n 0, 1) := by decide +kernel
theorem dX9_write_75 : decode cX9_write 75 = .ok (.getfield 38, 3) := by decide +kernel
theorem dX9_write_78 : decode cX9_write 78 = .ok (.getfield 161, 3) := by decide +kernel
theorem dX9_write_81 : decode cX9_write 81 = .ok (.iload 4, 2) := by decide +kernel
theorem dX9_write_83 : decode cX9_write 83 = .ok (.iaload, 1) := by decide +kernel
theorem dX9_write_84 : decode cX9_write 84 = .ok (.goto 13, 3) := by decide +kernel
theorem dX9_write_87 : decode cX9_write 87 = .ok (.aload_n 0, 1) := by decide +kernel
theorem dX9_write_88 : decode cX9_write 88 = .ok (.getfield 38, 3) := by decide +kernel
theorem dX9_write_91 : decode cX9_write 91 = .ok (.getfield 164, 3) := by decide +kernel
theorem dX9_write_94 : decode cX9_write 94 = .ok (.iload 4, 2) := by decide +kernel
theorem dX9_write_96 : decode cX9_write 96 = .ok (.iaload, 1) := by decide +kernel
theorem dX9_write_97 : decode cX9_write 97 = .ok (.invokevirtual 266, 3) := by decide +kernel
theorem dX9_write_100 : decode cX9_write 100 = .ok (.iinc 4 1, 3) := by decide +kernel
theorem dX9_write_103 : decode cX9_write 103 = .ok (.goto (-46), 3) := by decide +kernel
theorem dX9_write_106 : decode cX9_write 106 = .ok (.iload_n 3, 1) := by decide +kernel
theorem dX9_write_107 : decode cX9_write 107 = .ok (.ireturn, 1) := by decide +kernel
theorem dX9_count_0 : decode cX9_count 0 = .ok (.iload_n 1, 1) := by decide +kernel
theorem dX9_count_1 : decode cX9_count 1 = .ok (.tableswitch 114 0 8 #[51, 59, 67, 75, 83, 88, 93, 101, 109], 51) := by decide +kernel
theorem dX9_count_52 : decode cX9_count 52 = .ok (.aload_n 0, 1) := by decide +kernel
theorem dX9_count_53 : decode cX9_count 53 = .ok (.getfield 24, 3) := by decide +kernel
theorem dX9_count_56 : decode cX9_count 56 = .ok (.getfield 139, 3) := by decide +kernel
theorem dX9_count_59 : decode cX9_count 59 = .ok (.ireturn, 1) := by decide +kernel
theorem dX9_count_60 : decode cX9_count 60 = .ok (.aload_n 0, 1) := by decide +kernel
theorem dX9_count_61 : decode cX9_count 61 = .ok (.getfield 31, 3) := by decide +kernel
theorem dX9_count_64 : decode cX9_count 64 = .ok (.getfield 224, 3) := by decide +kernel
theorem dX9_count_67 : decode cX9_count 67 = .ok (.ireturn, 1) := by decide +kernel
theorem dX9_count_68 : decode cX9_count 68 = .ok (.aload_n 0, 1) := by decide +kernel
theorem dX9_count_69 : decode cX9_count 69 = .ok (.getfield 12, 3) := by decide +kernel
theorem dX9_count_72 : decode cX9_count 72 = .ok (.getfield 92, 3) := by decide +kernel
theorem dX9_count_75 : decode cX9_count 75 = .ok (.ireturn, 1) := by decide +kernel
theorem dX9_count_76 : decode cX9_count 76 = .ok (.aload_n 0, 1) := by decide +kernel
theorem dX9_count_77 : decode cX9_count 77 = .ok (.getfield 18, 3) := by decide +kernel
theorem dX9_count_80 : decode cX9_count 80 = .ok (.getfield 92, 3) := by decide +kernel
theorem dX9_count_83 : decode cX9_count 83 = .ok (.ireturn, 1) := by decide +kernel
theorem dX9_count_84 : decode cX9_count 84 = .ok (.aload_n 0, 1) := by decide +kernel
theorem dX9_count_85 : decode cX9_count 85 = .ok (.invokevirtual 286, 3) := by decide +kernel
theorem dX9_count_88 : decode cX9_count 88 = .ok (.ireturn, 1) := by decide +kernel
theorem dX9_count_89 : decode cX9_count 89 = .ok (.aload_n 0, 1) := by decide +kernel
theorem dX9_count_90 : decode cX9_count 90 = .ok (.invokevirtual 289, 3) := by decide +kernel
theorem dX9_count_93 : decode cX9_count 93 = .ok (.ireturn, 1) := by decide +kernel
theorem dX9_count_94 : decode cX9_count 94 = .ok (.aload_n 0, 1) := by decide +kernel
theorem dX9_count_95 : decode cX9_count 95 = .ok (.getfield 24, 3) := by decide +kernel
theorem dX9_count_98 : decode cX9_count 98 = .ok (.getfield 136, 3) := by decide +kernel
theorem dX9_count_101 : decode cX9_count 101 = .ok (.ireturn, 1) := by decide +kernel
theorem dX9_count_102 : decode cX9_count 102 = .ok (.aload_n 0, 1) := by decide +kernel
theorem dX9_count_103 : decode cX9_count 103 = .ok (.getfield 45, 3) := by decide +kernel
theorem dX9_count_106 : decode cX9_count 106 = .ok (.getfield 204, 3) := by decide +kernel
theorem dX9_count_109 : decode cX9_count 109 = .ok (.ireturn, 1) := by decide +kernel
theorem dX9_count_110 : decode cX9_count 110 = .ok (.aload_n 0, 1) := by decide +kernel
theorem dX9_count_111 : decode cX9_count 111 = .ok (.getfield 80, 3) := by decide +kernel
theorem dX9_count_114 : decode cX9_count 114 = .ok (.ireturn, 1) := by decide +kernel
theorem dX9_count_115 : decode cX9_count 115 = .ok (.bipush (-2), 2) := by decide +kernel
theorem dX9_count_117 : decode cX9_count 117 = .ok (.ireturn, 1) := by decide +kernel
theorem dX9_digest_0 : decode cX9_digest 0 = .ok (.ldc2_w 292, 3) := by decide +kernel
theorem dX9_digest_3 : decode cX9_digest 3 = .ok (.lstore_n 1, 1) := by decide +kernel
theorem dX9_digest_4 : decode cX9_digest 4 = .ok (.iconst 0, 1) := by decide +kernel
theorem dX9_digest_5 : decode cX9_digest 5 = .ok (.istore_n 3, 1) := by decide +kernel
theorem dX9_digest_6 : decode cX9_digest 6 = .ok (.iload_n 3, 1) := by decide +kernel
theorem dX9_digest_7 : decode cX9_digest 7 = .ok (.bipush 7, 2) := by decide +kernel
theorem dX9_digest_9 : decode cX9_digest 9 = .ok (.if_icmp .gt 22, 3) := by decide +kernel
theorem dX9_digest_12 : decode cX9_digest 12 = .ok (.ldc2_w 294, 3) := by decide +kernel
theorem dX9_digest_15 : decode cX9_digest 15 = .ok (.lload_n 1, 1) := by decide +kernel
theorem dX9_digest_16 : decode cX9_digest 16 = .ok (.lmul, 1) := by decide +kernel
theorem dX9_digest_17 : decode cX9_digest 17 = .ok (.aload_n 0, 1) := by decide +kernel
theorem dX9_digest_18 : decode cX9_digest 18 = .ok (.iload_n 3, 1) := by decide +kernel
theorem dX9_digest_19 : decode cX9_digest 19 = .ok (.invokevirtual 296, 3) := by decide +kernel
theorem dX9_digest_22 : decode cX9_digest 22 = .ok (.i2l, 1) := by decide +kernel
theorem dX9_digest_23 : decode cX9_digest 23 = .ok (.ladd, 1) := by decide +kernel
theorem dX9_digest_24 : decode cX9_digest 24 = .ok (.lstore_n 1, 1) := by decide +kernel
theorem dX9_digest_25 : decode cX9_digest 25 = .ok (.iinc 3 1, 3) := by decide +kernel
theorem dX9_digest_28 : decode cX9_digest 28 = .ok (.goto (-22), 3) := by decide +kernel
theorem dX9_digest_31 : decode cX9_digest 31 = .ok (.ldc2_w 294, 3) := by decide +kernel
theorem dX9_digest_34 : decode cX9_digest 34 = .ok (.lload_n 1, 1) := by decide +kernel
theorem dX9_digest_35 : decode cX9_digest 35 = .ok (.lmul, 1) := by decide +kernel
theorem dX9_digest_36 : decode cX9_digest 36 = .ok (.aload_n 0, 1) := by decide +kernel
theorem dX9_digest_37 : decode cX9_digest 37 = .ok (.iconst 0, 1) := by decide +kernel
theorem dX9_digest_38 : decode cX9_digest 38 = .ok (.invokevirtual 298, 3) := by decide +kernel
theorem dX9_digest_41 : decode cX9_digest 41 = .ok (.i2l, 1) := by decide +kernel
theorem dX9_digest_42 : decode cX9_digest 42 = .ok (.ladd, 1) := by decide +kernel
theorem dX9_digest_43 : decode cX9_digest 43 = .ok (.lstore_n 1, 1) := by decide +kernel
theorem dX9_digest_44 : decode cX9_digest 44 = .ok (.ldc2_w 294, 3) := by decide +kernel
theorem dX9_digest_47 : decode cX9_digest 47 = .ok (.lload_n 1, 1) := by decide +kernel
theorem dX9_digest_48 : decode cX9_digest 48 = .ok (.lmul, 1) := by decide +kernel
theorem dX9_digest_49 : decode cX9_digest 49 = .ok (.aload_n 0, 1) := by decide +kernel
theorem dX9_digest_50 : decode cX9_digest 50 = .ok (.iconst 1, 1) := by decide +kernel
theorem dX9_digest_51 : decode cX9_digest 51 = .ok (.invokevirtual 298, 3) := by decide +kernel
theorem dX9_digest_54 : decode cX9_digest 54 = .ok (.i2l, 1) := by decide +kernel
theorem dX9_digest_55 : decode cX9_digest 55 = .ok (.ladd, 1) := by decide +kernel
theorem dX9_digest_56 : decode cX9_digest 56 = .ok (.lstore_n 1, 1) := by decide +kernel
theorem dX9_digest_57 : decode cX9_digest 57 = .ok (.iconst 0, 1) := by decide +kernel
theorem dX9_digest_58 : decode cX9_digest 58 = .ok (.istore_n 3, 1) := by decide +kernel
theorem dX9_digest_59 : decode cX9_digest 59 = .ok (.iload_n 3, 1) := by decide +kernel
theorem dX9_digest_60 : decode cX9_digest 60 = .ok (.aload_n 0, 1) := by decide +kernel
theorem dX9_digest_61 : decode cX9_digest 61 = .ok (.getfield 24, 3) := by decide +kernel
theorem dX9_digest_64 : decode cX9_digest 64 = .ok (.getfield 139, 3) := by decide +kernel
theorem dX9_digest_67 : decode cX9_digest 67 = .ok (.if_icmp .ge 30, 3) := by decide +kernel
theorem dX9_digest_70 : decode cX9_digest 70 = .ok (.aload_n 0, 1) := by decide +kernel
theorem dX9_digest_71 : decode cX9_digest 71 = .ok (.lload_n 1, 1) := by decide +kernel
theorem dX9_digest_72 : decode cX9_digest 72 = .ok (.iload_n 3, 1) := by decide +kernel
theorem dX9_digest_73 : decode cX9_digest 73 = .ok (.invokevirtual 301, 3) := by decide +kernel
theorem dX9_digest_76 : decode cX9_digest 76 = .ok (.lstore_n 1, 1) := by decide +kernel
theorem dX9_digest_77 : decode cX9_digest 77 = .ok (.aload_n 0, 1) := by decide +kernel
theorem dX9_digest_78 : decode cX9_digest 78 = .ok (.lload_n 1, 1) := by decide +kernel
theorem dX9_digest_79 : decode cX9_digest 79 = .ok (.iload_n 3, 1) := by decide +kernel
theorem dX9_digest_80 : decode cX9_digest 80 = .ok (.invokevirtual 305, 3) := by decide +kernel
theorem dX9_digest_83 : decode cX9_digest 83 = .ok (.lstore_n 1, 1) := by decide +kernel
theorem dX9_digest_84 : decode cX9_digest 84 = .ok (.aload_n 0, 1) := by decide +kernel
theorem dX9_digest_85 : decode cX9_digest 85 = .ok (.lload_n 1, 1) := by decide +kernel
theorem dX9_digest_86 : decode cX9_digest 86 = .ok (.iload_n 3, 1) := by decide +kernel
theorem dX9_digest_87 : decode cX9_digest 87 = .ok (.invokevirtual 308, 3) := by decide +kernel
theorem dX9_digest_90 : decode cX9_digest 90 = .ok (.lstore_n 1, 1) := by decide +kernel
theorem dX9_digest_91 : decode cX9_digest 91 = .ok (.iinc 3 1, 3) := by decide +kernel
theorem dX9_digest_94 : decode cX9_digest 94 = .ok (.goto (-35), 3) := by decide +kernel
theorem dX9_digest_97 : decode cX9_digest 97 = .ok (.iconst 0, 1) := by decide +kernel
theorem dX9_digest_98 : decode cX9_digest 98 = .ok (.istore_n 3, 1) := by decide +kernel
theorem dX9_digest_99 : decode cX9_digest 99 = .ok (.iload_n 3, 1) := by decide +kernel
theorem dX9_digest_100 : decode cX9_digest 100 = .ok (.aload_n 0, 1) := by decide +kernel
theorem dX9_digest_101 : decode cX9_digest 101 = .ok (.getfield 31, 3) := by decide +kernel
theorem dX9_digest_104 : decode cX9_digest 104 = .ok (.getfield 224, 3) := by decide +kernel
theorem dX9_digest_107 : decode cX9_digest 107 = .ok (.if_icmp .ge 16, 3) := by decide +kernel
theorem dX9_digest_110 : decode cX9_digest 110 = .ok (.aload_n 0, 1) := by decide +kernel
theorem dX9_digest_111 : decode cX9_digest 111 = .ok (.lload_n 1, 1) := by decide +kernel
theorem dX9_digest_112 : decode cX9_digest 112 = .ok (.iload_n 3, 1) := by decide +kernel
theorem dX9_digest_113 : decode cX9_digest 113 = .ok (.invokevirtual 311, 3) := by decide +kernel
theorem dX9_digest_116 : decode cX9_digest 116 = .ok (.lstore_n 1, 1) := by decide +kernel
theorem dX9_digest_117 : decode cX9_digest 117 = .ok (.iinc 3 1, 3) := by decide +kernel
theorem dX9_digest_120 : decode cX9_digest 120 = .ok (.goto (-21), 3) := by decide +kernel
theorem dX9_digest_123 : decode cX9_digest 123 = .ok (.ldc2_w 294, 3) := by decide +kernel
theorem dX9_digest_126 : decode cX9_digest 126 = .ok (.lload_n 1, 1) := by decide +kernel
theorem dX9_digest_127 : decode cX9_digest 127 = .ok (.lmul, 1) := by decide +kernel
theorem dX9_digest_128 : decode cX9_digest 128 = .ok (.aload_n 0, 1) := by decide +kernel
theorem dX9_digest_129 : decode cX9_digest 129 = .ok (.invokevirtual 314, 3) := by decide +kernel
theorem dX9_digest_132 : decode cX9_digest 132 = .ok (.i2l, 1) := by decide +kernel
theorem dX9_digest_133 : decode cX9_digest 133 = .ok (.ladd, 1) := by decide +kernel
theorem dX9_digest_134 : decode cX9_digest 134 = .ok (.lstore_n 1, 1) := by decide +kernel
theorem dX9_digest_135 : decode cX9_digest 135 = .ok (.ldc2_w 294, 3) := by decide +kernel
theorem dX9_digest_138 : decode cX9_digest 138 = .ok (.lload_n 1, 1) := by decide +kernel
theorem dX9_digest_139 : decode cX9_digest 139 = .ok (.lmul, 1) := by decide +kernel
theorem dX9_digest_140 : decode cX9_digest 140 = .ok (.aload_n 0, 1) := by decide +kernel
theorem dX9_digest_141 : decode cX9_digest 141 = .ok (.invokevirtual 317, 3) := by decide +kernel
theorem dX9_digest_144 : decode cX9_digest 144 = .ok (.i2l, 1) := by decide +kernel
theorem dX9_digest_145 : decode cX9_digest 145 = .ok (.ladd, 1) := by decide +kernel
theorem dX9_digest_146 : decode cX9_digest 146 = .ok (.lstore_n 1, 1) := by decide +kernel
theorem dX9_digest_147 : decode cX9_digest 147 = .ok (.ldc2_w 294, 3) := by decide +kernel
theorem dX9_digest_150 : decode cX9_digest 150 = .ok (.lload_n 1, 1) := by decide +kernel
theorem dX9_digest_151 : decode cX9_digest 151 = .ok (.lmul, 1) := by decide +kernel
theorem dX9_digest_152 : decode cX9_digest 152 = .ok (.aload_n 0, 1) := by decide +kernel
theorem dX9_digest_153 : decode cX9_digest 153 = .ok (.invokevirtual 235, 3) := by decide +kernel
theorem dX9_digest_156 : decode cX9_digest 156 = .ok (.i2l, 1) := by decide +kernel
theorem dX9_digest_157 : decode cX9_digest 157 = .ok (.ladd, 1) := by decide +kernel
theorem dX9_digest_158 : decode cX9_digest 158 = .ok (.lstore_n 1, 1) := by decide +kernel
theorem dX9_digest_159 : decode cX9_digest 159 = .ok (.ldc2_w 294, 3) := by decide +kernel
theorem dX9_digest_162 : decode cX9_digest 162 = .ok (.lload_n 1, 1) := by decide +kernel
theorem dX9_digest_163 : decode cX9_digest 163 = .ok (.lmul, 1) := by decide +kernel
theorem dX9_digest_164 : decode cX9_digest 164 = .ok (.aload_n 0, 1) := by decide +kernel
theorem dX9_digest_165 : decode cX9_digest 165 = .ok (.invokevirtual 320, 3) := by decide +kernel
theorem dX9_digest_168 : decode cX9_digest 168 = .ok (.i2l, 1) := by decide +kernel
theorem dX9_digest_169 : decode cX9_digest 169 = .ok (.ladd, 1) := by decide +kernel
theorem dX9_digest_170 : decode cX9_digest 170 = .ok (.lreturn, 1) := by decide +kernel
theorem dX9_isBit_0 : decode cX9_isBit 0 = .ok (.iload_n 0, 1) := by decide +kernel
theorem dX9_isBit_1 : decode cX9_isBit 1 = .ok (.ifCond .eq 8, 3) := by decide +kernel
theorem dX9_isBit_4 : decode cX9_isBit 4 = .ok (.iload_n 0, 1) := by decide +kernel
theorem dX9_isBit_5 : decode cX9_isBit 5 = .ok (.iconst 1, 1) := by decide +kernel
theorem dX9_isBit_6 : decode cX9_isBit 6 = .ok (.if_icmp .ne 7, 3) := by decide +kernel
theorem dX9_isBit_9 : decode cX9_isBit 9 = .ok (.iconst 1, 1) := by decide +kernel
theorem dX9_isBit_10 : decode cX9_isBit 10 = .ok (.goto 4, 3) := by decide +kernel
theorem dX9_isBit_13 : decode cX9_isBit 13 = .ok (.iconst 0, 1) := by decide +kernel
theorem dX9_isBit_14 : decode cX9_isBit 14 = .ok (.ireturn, 1) := by decide +kernel
theorem dX9_isSheet_0 : decode cX9_isSheet 0 = .ok (.iload_n 0, 1) := by decide +kernel
theorem dX9_isSheet_1 : decode cX9_isSheet 1 = .ok (.ifCond .lt 12, 3) := by decide +kernel
theorem dX9_isSheet_4 : decode cX9_isSheet 4 = .ok (.iload_n 0, 1) := by decide +kernel
theorem dX9_isSheet_5 : decode cX9_isSheet 5 = .ok (.iconst 4, 1) := by decide +kernel
theorem dX9_isSheet_6 : decode cX9_isSheet 6 = .ok (.if_icmp .ge 7, 3) := by decide +kernel
theorem dX9_isSheet_9 : decode cX9_isSheet 9 = .ok (.iconst 1, 1) := by decide +kernel
theorem dX9_isSheet_10 : decode cX9_isSheet 10 = .ok (.goto 4, 3) := by decide +kernel
theorem dX9_isSheet_13 : decode cX9_isSheet 13 = .ok (.iconst 0, 1) := by decide +kernel
theorem dX9_isSheet_14 : decode cX9_isSheet 14 = .ok (.ireturn, 1) := by decide +kernel
theorem dX9_isForm_0 : decode cX9_isForm 0 = .ok (.iload_n 0, 1) := by decide +kernel
theorem dX9_isForm_1 : decode cX9_isForm 1 = .ok (.ifCond .lt 12, 3) := by decide +kernel
theorem dX9_isForm_4 : decode cX9_isForm 4 = .ok (.iload_n 0, 1) := by decide +kernel
theorem dX9_isForm_5 : decode cX9_isForm 5 = .ok (.iconst 2, 1) := by decide +kernel
theorem dX9_isForm_6 : decode cX9_isForm 6 = .ok (.if_icmp .gt 7, 3) := by decide +kernel
theorem dX9_isForm_9 : decode cX9_isForm 9 = .ok (.iconst 1, 1) := by decide +kernel
theorem dX9_isForm_10 : decode cX9_isForm 10 = .ok (.goto 4, 3) := by decide +kernel
theorem dX9_isForm_13 : decode cX9_isForm 13 = .ok (.iconst 0, 1) := by decide +kernel
theorem dX9_isForm_14 : decode cX9_isForm 14 = .ok (.ireturn, 1) := by decide +kernel
theorem dX9_isHouse_0 : decode cX9_isHouse 0 = .ok (.iload_n 1, 1) := by decide +kernel
theorem dX9_isHouse_1 : decode cX9_isHouse 1 = .ok (.ifCond .lt 18, 3) := by decide +kernel
theorem dX9_isHouse_4 : decode cX9_isHouse 4 = .ok (.iload_n 1, 1) := by decide +kernel
theorem dX9_isHouse_5 : decode cX9_isHouse 5 = .ok (.aload_n 0, 1) := by decide +kernel
theorem dX9_isHouse_6 : decode cX9_isHouse 6 = .ok (.getfield 24, 3) := by decide +kernel
theorem dX9_isHouse_9 : decode cX9_isHouse 9 = .ok (.getfield 139, 3) := by decide +kernel
theorem dX9_isHouse_12 : decode cX9_isHouse 12 = .ok (.if_icmp .ge 7, 3) := by decide +kernel
theorem dX9_isHouse_15 : decode cX9_isHouse 15 = .ok (.iconst 1, 1) := by decide +kernel
theorem dX9_isHouse_16 : decode cX9_isHouse 16 = .ok (.goto 4, 3) := by decide +kernel
theorem dX9_isHouse_19 : decode cX9_isHouse 19 = .ok (.iconst 0, 1) := by decide +kernel
theorem dX9_isHouse_20 : decode cX9_isHouse 20 = .ok (.ireturn, 1) := by decide +kernel
theorem dX9_isGuest_0 : decode cX9_isGuest 0 = .ok (.iload_n 1, 1) := by decide +kernel
theorem dX9_isGuest_1 : decode cX9_isGuest 1 = .ok (.ifCond .lt 18, 3) := by decide +kernel
theorem dX9_isGuest_4 : decode cX9_isGuest 4 = .ok (.iload_n 1, 1) := by decide +kernel
theorem dX9_isGuest_5 : decode cX9_isGuest 5 = .ok (.aload_n 0, 1) := by decide +kernel
theorem dX9_isGuest_6 : decode cX9_isGuest 6 = .ok (.getfield 31, 3) := by decide +kernel
theorem dX9_isGuest_9 : decode cX9_isGuest 9 = .ok (.getfield 224, 3) := by decide +kernel
theorem dX9_isGuest_12 : decode cX9_isGuest 12 = .ok (.if_icmp .ge 7, 3) := by decide +kernel
theorem dX9_isGuest_15 : decode cX9_isGuest 15 = .ok (.iconst 1, 1) := by decide +kernel
theorem dX9_isGuest_16 : decode cX9_isGuest 16 = .ok (.goto 4, 3) := by decide +kernel
theorem dX9_isGuest_19 : decode cX9_isGuest 19 = .ok (.iconst 0, 1) := by decide +kernel
theorem dX9_isGuest_20 : decode cX9_isGuest 20 = .ok (.ireturn, 1) := by decide +kernel
theorem dX9_textOf_0 : decode cX9_textOf 0 = .ok (.iload_n 1, 1) := by decide +kernel
theorem dX9_textOf_1 : decode cX9_textOf 1 = .ok (.ifCond .ne 10, 3) := by decide +kernel
theorem dX9_textOf_4 : decode cX9_textOf 4 = .ok (.aload_n 0, 1) := by decide +kernel
theorem dX9_textOf_5 : decode cX9_textOf 5 = .ok (.getfield 12, 3) := by decide +kernel
theorem dX9_textOf_8 : decode cX9_textOf 8 = .ok (.goto 7, 3) := by decide +kernel
theorem dX9_textOf_11 : decode cX9_textOf 11 = .ok (.aload_n 0, 1) := by decide +kernel
theorem dX9_textOf_12 : decode cX9_textOf 12 = .ok (.getfield 18, 3) := by decide +kernel
theorem dX9_textOf_15 : decode cX9_textOf 15 = .ok (.areturn, 1) := by decide +kernel
theorem dX9_refresh_0 : decode cX9_refresh 0 = .ok (.aload_n 0, 1) := by decide +kernel
theorem dX9_refresh_1 : decode cX9_refresh 1 = .ok (.getfield 24, 3) := by decide +kernel
theorem dX9_refresh_4 : decode cX9_refresh 4 = .ok (.aload_n 0, 1) := by decide +kernel
theorem dX9_refresh_5 : decode cX9_refresh 5 = .ok (.getfield 12, 3) := by decide +kernel
theorem dX9_refresh_8 : decode cX9_refresh 8 = .ok (.invokevirtual 323, 3) := by decide +kernel
theorem dX9_refresh_11 : decode cX9_refresh 11 = .ok (.aload_n 0, 1) := by decide +kernel
theorem dX9_refresh_12 : decode cX9_refresh 12 = .ok (.getfield 31, 3) := by decide +kernel
theorem dX9_refresh_15 : decode cX9_refresh 15 = .ok (.aload_n 0, 1) := by decide +kernel
theorem dX9_refresh_16 : decode cX9_refresh 16 = .ok (.getfield 18, 3) := by decide +kernel
theorem dX9_refresh_19 : decode cX9_refresh 19 = .ok (.invokevirtual 327, 3) := by decide +kernel
theorem dX9_refresh_22 : decode cX9_refresh 22 = .ok (.aload_n 0, 1) := by decide +kernel
theorem dX9_refresh_23 : decode cX9_refresh 23 = .ok (.getfield 38, 3) := by decide +kernel
theorem dX9_refresh_26 : decode cX9_refresh 26 = .ok (.aload_n 0, 1) := by decide +kernel
theorem dX9_refresh_27 : decode cX9_refresh 27 = .ok (.getfield 24, 3) := by decide +kernel
theorem dX9_refresh_30 : decode cX9_refresh 30 = .ok (.aload_n 0, 1) := by decide +kernel
theorem dX9_refresh_31 : decode cX9_refresh 31 = .ok (.getfield 31, 3) := by decide +kernel
theorem dX9_refresh_34 : decode cX9_refresh 34 = .ok (.aload_n 0, 1) := by decide +kernel
theorem dX9_refresh_35 : decode cX9_refresh 35 = .ok (.getfield 69, 3) := by decide +kernel
theorem dX9_refresh_38 : decode cX9_refresh 38 = .ok (.invokevirtual 328, 3) := by decide +kernel
theorem dX9_refresh_41 : decode cX9_refresh 41 = .ok (.return_, 1) := by decide +kernel
theorem dX9_found_0 : decode cX9_found 0 = .ok (.aload_n 0, 1) := by decide +kernel
theorem dX9_found_1 : decode cX9_found 1 = .ok (.iload_n 1, 1) := by decide +kernel
theorem dX9_found_2 : decode cX9_found 2 = .ok (.putfield 80, 3) := by decide +kernel
theorem dX9_found_5 : decode cX9_found 5 = .ok (.bipush (-10), 2) := by decide +kernel
theorem dX9_found_7 : decode cX9_found 7 = .ok (.iload_n 1, 1) := by decide +kernel
theorem dX9_found_8 : decode cX9_found 8 = .ok (.isub, 1) := by decide +kernel
theorem dX9_found_9 : decode cX9_found 9 = .ok (.ireturn, 1) := by decide +kernel
theorem dX9_itemFinding_0 : decode cX9_itemFinding 0 = .ok (.aload_n 0, 1) := by decide +kernel
theorem dX9_itemFinding_1 : decode cX9_itemFinding 1 = .ok (.getfield 52, 3) := by decide +kernel
theorem dX9_itemFinding_4 : decode cX9_itemFinding 4 = .ok (.iload_n 1, 1) := by decide +kernel
theorem dX9_itemFinding_5 : decode cX9_itemFinding 5 = .ok (.invokevirtual 212, 3) := by decide +kernel
theorem dX9_itemFinding_8 : decode cX9_itemFinding 8 = .ok (.ifCond .eq 5, 3) := by decide +kernel
theorem dX9_itemFinding_11 : decode cX9_itemFinding 11 = .ok (.iconst 1, 1) := by decide +kernel
theorem dX9_itemFinding_12 : decode cX9_itemFinding 12 = .ok (.ireturn, 1) := by decide +kernel
theorem dX9_itemFinding_13 : decode cX9_itemFinding 13 = .ok (.aload_n 0, 1) := by decide +kernel
theorem dX9_itemFinding_14 : decode cX9_itemFinding 14 = .ok (.getfield 52, 3) := by decide +kernel
theorem dX9_itemFinding_17 : decode cX9_itemFinding 17 = .ok (.getfield 270, 3) := by decide +kernel
theorem dX9_itemFinding_20 : decode cX9_itemFinding 20 = .ok (.iload_n 1, 1) := by decide +kernel
theorem dX9_itemFinding_21 : decode cX9_itemFinding 21 = .ok (.iaload, 1) := by decide +kernel
theorem dX9_itemFinding_22 : decode cX9_itemFinding 22 = .ok (.iload_n 2, 1) := by decide +kernel
theorem dX9_itemFinding_23 : decode cX9_itemFinding 23 = .ok (.if_icmp .eq 5, 3) := by decide +kernel
theorem dX9_itemFinding_26 : decode cX9_itemFinding 26 = .ok (.iconst 3, 1) := by decide +kernel
theorem dX9_itemFinding_27 : decode cX9_itemFinding 27 = .ok (.ireturn, 1) := by decide +kernel
theorem dX9_itemFinding_28 : decode cX9_itemFinding 28 = .ok (.iload_n 3, 1) := by decide +kernel
theorem dX9_itemFinding_29 : decode cX9_itemFinding 29 = .ok (.ifCond .lt 16, 3) := by decide +kernel
theorem dX9_itemFinding_32 : decode cX9_itemFinding 32 = .ok (.iload_n 3, 1) := by decide +kernel
theorem dX9_itemFinding_33 : decode cX9_itemFinding 33 = .ok (.aload_n 0, 1) := by decide +kernel
theorem dX9_itemFinding_34 : decode cX9_itemFinding 34 = .ok (.getfield 52, 3) := by decide +kernel
theorem dX9_itemFinding_37 : decode cX9_itemFinding 37 = .ok (.getfield 218, 3) := by decide +kernel
theorem dX9_itemFinding_40 : decode cX9_itemFinding 40 = .ok (.iload_n 1, 1) := by decide +kernel
theorem dX9_itemFinding_41 : decode cX9_itemFinding 41 = .ok (.iaload, 1) := by decide +kernel
theorem dX9_itemFinding_42 : decode cX9_itemFinding 42 = .ok (.if_icmp .lt 7, 3) := by decide +kernel
theorem dX9_itemFinding_45 : decode cX9_itemFinding 45 = .ok (.iconst 2, 1) := by decide +kernel
theorem dX9_itemFinding_46 : decode cX9_itemFinding 46 = .ok (.goto 4, 3) := by decide +kernel
theorem dX9_itemFinding_49 : decode cX9_itemFinding 49 = .ok (.iconst 0, 1) := by decide +kernel
theorem dX9_itemFinding_50 : decode cX9_itemFinding 50 = .ok (.ireturn, 1) := by decide +kernel
theorem dX9_planPlace_0 : decode cX9_planPlace 0 = .ok (.aload_n 0, 1) := by decide +kernel
theorem dX9_planPlace_1 : decode cX9_planPlace 1 = .ok (.getfield 63, 3) := by decide +kernel
theorem dX9_planPlace_4 : decode cX9_planPlace 4 = .ok (.aload_n 0, 1) := by decide +kernel
theorem dX9_planPlace_5 : decode cX9_planPlace 5 = .ok (.getfield 24, 3) := by decide +kernel
theorem dX9_planPlace_8 : decode cX9_planPlace 8 = .ok (.invokevirtual 190, 3) := by decide +kernel
theorem dX9_planPlace_11 : decode cX9_planPlace 11 = .ok (.aload_n 0, 1) := by decide +kernel
theorem dX9_planPlace_12 : decode cX9_planPlace 12 = .ok (.getfield 76, 3) := by decide +kernel
theorem dX9_planPlace_15 : decode cX9_planPlace 15 = .ok (.invokevirtual 332, 3) := by decide +kernel
theorem dX9_planPlace_18 : decode cX9_planPlace 18 = .ok (.iconst 0, 1) := by decide +kernel
theorem dX9_planPlace_19 : decode cX9_planPlace 19 = .ok (.istore_n 2, 1) := by decide +kernel
theorem dX9_planPlace_20 : decode cX9_planPlace 20 = .ok (.iload_n 2, 1) := by decide +kernel
theorem dX9_planPlace_21 : decode cX9_planPlace 21 = .ok (.aload_n 0, 1) := by decide +kernel
theorem dX9_planPlace_22 : decode cX9_planPlace 22 = .ok (.getfield 24, 3) := by decide +kernel
theorem dX9_planPlace_25 : decode cX9_planPlace 25 = .ok (.getfield 139, 3) := by decide +kernel
theorem dX9_planPlace_28 : decode cX9_planPlace 28 = .ok (.if_icmp .ge 28, 3) := by decide +kernel
theorem dX9_planPlace_31 : decode cX9_planPlace 31 = .ok (.aload_n 0, 1) := by decide +kernel
theorem dX9_planPlace_32 : decode cX9_planPlace 32 = .ok (.getfield 63, 3) := by decide +kernel
theorem dX9_planPlace_35 : decode cX9_planPlace 35 = .ok (.aload_n 0, 1) := by decide +kernel
theorem dX9_planPlace_36 : decode cX9_planPlace 36 = .ok (.getfield 24, 3) := by decide +kernel
theorem dX9_planPlace_39 : decode cX9_planPlace 39 = .ok (.iload_n 1, 1) := by decide +kernel
theorem dX9_planPlace_40 : decode cX9_planPlace 40 = .ok (.iload_n 2, 1) := by decide +kernel
theorem dX9_planPlace_41 : decode cX9_planPlace 41 = .ok (.invokevirtual 335, 3) := by decide +kernel
theorem dX9_planPlace_44 : decode cX9_planPlace 44 = .ok (.aload_n 0, 1) := by decide +kernel
theorem dX9_planPlace_45 : decode cX9_planPlace 45 = .ok (.iload_n 2, 1) := by decide +kernel
theorem dX9_planPlace_46 : decode cX9_planPlace 46 = .ok (.iload_n 1, 1) := by decide +kernel
theorem dX9_planPlace_47 : decode cX9_planPlace 47 = .ok (.invokevirtual 339, 3) := by decide +kernel
theorem dX9_planPlace_50 : decode cX9_planPlace 50 = .ok (.iinc 2 1, 3) := by decide +kernel
theorem dX9_planPlace_53 : decode cX9_planPlace 53 = .ok (.goto (-33), 3) := by decide +kernel
theorem dX9_planPlace_56 : decode cX9_planPlace 56 = .ok (.return_, 1) := by decide +kernel
theorem dX9_planKind_0 : decode cX9_planKind 0 = .ok (.aload_n 0, 1) := by decide +kernel
theorem dX9_planKind_1 : decode cX9_planKind 1 = .ok (.getfield 63, 3) := by decide +kernel
theorem dX9_planKind_4 : decode cX9_planKind 4 = .ok (.aload_n 0, 1) := by decide +kernel
theorem dX9_planKind_5 : decode cX9_planKind 5 = .ok (.getfield 24, 3) := by decide +kernel
theorem dX9_planKind_8 : decode cX9_planKind 8 = .ok (.invokevirtual 190, 3) := by decide +kernel
theorem dX9_planKind_11 : decode cX9_planKind 11 = .ok (.aload_n 0, 1) := by decide +kernel
theorem dX9_planKind_12 : decode cX9_planKind 12 = .ok (.getfield 76, 3) := by decide +kernel
theorem dX9_planKind_15 : decode cX9_planKind 15 = .ok (.invokevirtual 332, 3) := by decide +kernel
theorem dX9_planKind_18 : decode cX9_planKind 18 = .ok (.iconst 0, 1) := by decide +kernel
theorem dX9_planKind_19 : decode cX9_planKind 19 = .ok (.istore_n 2, 1) := by decide +kernel
theorem dX9_planKind_20 : decode cX9_planKind 20 = .ok (.iload_n 2, 1) := by decide +kernel
theorem dX9_planKind_21 : decode cX9_planKind 21 = .ok (.iconst 3, 1) := by decide +kernel
theorem dX9_planKind_22 : decode cX9_planKind 22 = .ok (.if_icmp .gt 25, 3) := by decide +kernel
theorem dX9_planKind_25 : decode cX9_planKind 25 = .ok (.aload_n 0, 1) := by decide +kernel
theorem dX9_planKind_26 : decode cX9_planKind 26 = .ok (.getfield 63, 3) := by decide +kernel
theorem dX9_planKind_29 : decode cX9_planKind 29 = .ok (.getfield 109, 3) := by decide +kernel
theorem dX9_planKind_32 : decode cX9_planKind 32 = .ok (.iload_n 1, 1) := by decide +kernel
theorem dX9_planKind_33 : decode cX9_planKind 33 = .ok (.iload_n 2, 1) := by decide +kernel
theorem dX9_planKind_34 : decode cX9_planKind 34 = .ok (.iastore, 1) := by decide +kernel
theorem dX9_planKind_35 : decode cX9_planKind 35 = .ok (.aload_n 0, 1) := by decide +kernel
theorem dX9_planKind_36 : decode cX9_planKind 36 = .ok (.iload_n 2, 1) := by decide +kernel
theorem dX9_planKind_37 : decode cX9_planKind 37 = .ok (.iload_n 1, 1) := by decide +kernel
theorem dX9_planKind_38 : decode cX9_planKind 38 = .ok (.invokevirtual 339, 3) := by decide +kernel
theorem dX9_planKind_41 : decode cX9_planKind 41 = .ok (.iinc 2 1, 3) := by decide +kernel
theorem dX9_planKind_44 : decode cX9_planKind 44 = .ok (.goto (-24), 3) := by decide +kernel
theorem dX9_planKind_47 : decode cX9_planKind 47 = .ok (.return_, 1) := by decide +kernel
theorem dX9_weighTrial_0 : decode cX9_weighTrial 0 = .ok (.iconst 0, 1) := by decide +kernel
theorem dX9_weighTrial_1 : decode cX9_weighTrial 1 = .ok (.istore_n 3, 1) := by decide +kernel
theorem dX9_weighTrial_2 : decode cX9_weighTrial 2 = .ok (.iconst 0, 1) := by decide +kernel
theorem dX9_weighTrial_3 : decode cX9_weighTrial 3 = .ok (.istore 4, 2) := by decide +kernel
theorem dX9_weighTrial_5 : decode cX9_weighTrial 5 = .ok (.iconst 0, 1) := by decide +kernel
theorem dX9_weighTrial_6 : decode cX9_weighTrial 6 = .ok (.istore 5, 2) := by decide +kernel
theorem dX9_weighTrial_8 : decode cX9_weighTrial 8 = .ok (.iload 5, 2) := by decide +kernel
theorem dX9_weighTrial_10 : decode cX9_weighTrial 10 = .ok (.aload_n 0, 1) := by decide +kernel
theorem dX9_weighTrial_11 : decode cX9_weighTrial 11 = .ok (.getfield 31, 3) := by decide +kernel
theorem dX9_weighTrial_14 : decode cX9_weighTrial 14 = .ok (.getfield 224, 3) := by decide +kernel
theorem dX9_weighTrial_17 : decode cX9_weighTrial 17 = .ok (.if_icmp .ge 52, 3) := by decide +kernel
theorem dX9_weighTrial_20 : decode cX9_weighTrial 20 = .ok (.aload_n 0, 1) := by decide +kernel
theorem dX9_weighTrial_21 : decode cX9_weighTrial 21 = .ok (.getfield 69, 3) := by decide +kernel
theorem dX9_weighTrial_24 : decode cX9_weighTrial 24 = .ok (.aload_n 0, 1) := by decide +kernel
theorem dX9_weighTrial_25 : decode cX9_weighTrial 25 = .ok (.getfield 63, 3) := by decide +kernel
theorem dX9_weighTrial_28 : decode cX9_weighTrial 28 = .ok (.aload_n 0, 1) := by decide +kernel
theorem dX9_weighTrial_29 : decode cX9_weighTrial 29 = .ok (.getfield 31, 3) := by decide +kernel
theorem dX9_weighTrial_32 : decode cX9_weighTrial 32 = .ok (.iload 5, 2) := by decide +kernel
theorem dX9_weighTrial_34 : decode cX9_weighTrial 34 = .ok (.invokevirtual 194, 3) := by decide +kernel
theorem dX9_weighTrial_37 : decode cX9_weighTrial 37 = .ok (.iload_n 3, 1) := by decide +kernel
theorem dX9_weighTrial_38 : decode cX9_weighTrial 38 = .ok (.aload_n 0, 1) := by decide +kernel
theorem dX9_weighTrial_39 : decode cX9_weighTrial 39 = .ok (.getfield 69, 3) := by decide +kernel
theorem dX9_weighTrial_42 : decode cX9_weighTrial 42 = .ok (.getfield 342, 3) := by decide +kernel
theorem dX9_weighTrial_45 : decode cX9_weighTrial 45 = .ok (.iload_n 2, 1) := by decide +kernel
theorem dX9_weighTrial_46 : decode cX9_weighTrial 46 = .ok (.iaload, 1) := by decide +kernel
theorem dX9_weighTrial_47 : decode cX9_weighTrial 47 = .ok (.iadd, 1) := by decide +kernel
theorem dX9_weighTrial_48 : decode cX9_weighTrial 48 = .ok (.istore_n 3, 1) := by decide +kernel
theorem dX9_weighTrial_49 : decode cX9_weighTrial 49 = .ok (.aload_n 0, 1) := by decide +kernel
theorem dX9_weighTrial_50 : decode cX9_weighTrial 50 = .ok (.getfield 69, 3) := by decide +kernel
theorem dX9_weighTrial_53 : decode cX9_weighTrial 53 = .ok (.getfield 198, 3) := by decide +kernel
theorem dX9_weighTrial_56 : decode cX9_weighTrial 56 = .ok (.iload_n 2, 1) := by decide +kernel
theorem dX9_weighTrial_57 : decode cX9_weighTrial 57 = .ok (.if_icmp .ne 6, 3) := by decide +kernel
theorem dX9_weighTrial_60 : decode cX9_weighTrial 60 = .ok (.iinc 4 1, 3) := by decide +kernel
theorem dX9_weighTrial_63 : decode cX9_weighTrial 63 = .ok (.iinc 5 1, 3) := by decide +kernel
theorem dX9_weighTrial_66 : decode cX9_weighTrial 66 = .ok (.goto (-58), 3) := by decide +kernel
theorem dX9_weighTrial_69 : decode cX9_weighTrial 69 = .ok (.aload_n 0, 1) := by decide +kernel
theorem dX9_weighTrial_70 : decode cX9_weighTrial 70 = .ok (.getfield 76, 3) := by decide +kernel
theorem dX9_weighTrial_73 : decode cX9_weighTrial 73 = .ok (.iload_n 1, 1) := by decide +kernel
theorem dX9_weighTrial_74 : decode cX9_weighTrial 74 = .ok (.iload_n 3, 1) := by decide +kernel
theorem dX9_weighTrial_75 : decode cX9_weighTrial 75 = .ok (.iload 4, 2) := by decide +kernel
theorem dX9_weighTrial_77 : decode cX9_weighTrial 77 = .ok (.invokevirtual 345, 3) := by decide +kernel
theorem dX9_weighTrial_80 : decode cX9_weighTrial 80 = .ok (.return_, 1) := by decide +kernel
theorem dX9_fewestEmpty_0 : decode cX9_fewestEmpty 0 = .ok (.aload_n 0, 1) := by decide +kernel
theorem dX9_fewestEmpty_1 : decode cX9_fewestEmpty 1 = .ok (.getfield 63, 3) := by decide +kernel
theorem dX9_fewestEmpty_4 : decode cX9_fewestEmpty 4 = .ok (.aload_n 0, 1) := by decide +kernel
theorem dX9_fewestEmpty_5 : decode cX9_fewestEmpty 5 = .ok (.getfield 24, 3) := by decide +kernel
theorem dX9_fewestEmpty_8 : decode cX9_fewestEmpty 8 = .ok (.invokevirtual 190, 3) := by decide +kernel
theorem dX9_fewestEmpty_11 : decode cX9_fewestEmpty 11 = .ok (.iconst (-1), 1) := by decide +kernel
theorem dX9_fewestEmpty_12 : decode cX9_fewestEmpty 12 = .ok (.istore_n 3, 1) := by decide +kernel
theorem dX9_fewestEmpty_13 : decode cX9_fewestEmpty 13 = .ok (.bipush 9, 2) := by decide +kernel
theorem dX9_fewestEmpty_15 : decode cX9_fewestEmpty 15 = .ok (.istore 4, 2) := by decide +kernel
theorem dX9_fewestEmpty_17 : decode cX9_fewestEmpty 17 = .ok (.iconst 0, 1) := by decide +kernel
theorem dX9_fewestEmpty_18 : decode cX9_fewestEmpty 18 = .ok (.istore 5, 2) := by decide +kernel
theorem dX9_fewestEmpty_20 : decode cX9_fewestEmpty 20 = .ok (.iload 5, 2) := by decide +kernel
theorem dX9_fewestEmpty_22 : decode cX9_fewestEmpty 22 = .ok (.iconst 1, 1) := by decide +kernel
theorem dX9_fewestEmpty_23 : decode cX9_fewestEmpty 23 = .ok (.aload_n 0, 1) := by decide +kernel
theorem dX9_fewestEmpty_24 : decode cX9_fewestEmpty 24 = .ok (.getfield 24, 3) := by decide +kernel
theorem dX9_fewestEmpty_27 : decode cX9_fewestEmpty 27 = .ok (.getfield 139, 3) := by decide +kernel
theorem dX9_fewestEmpty_30 : decode cX9_fewestEmpty 30 = .ok (.ishl, 1) := by decide +kernel
theorem dX9_fewestEmpty_31 : decode cX9_fewestEmpty 31 = .ok (.if_icmp .ge 69, 3) := by decide +kernel
theorem dX9_fewestEmpty_34 : decode cX9_fewestEmpty 34 = .ok (.iload 5, 2) := by decide +kernel
theorem dX9_fewestEmpty_36 : decode cX9_fewestEmpty 36 = .ok (.invokestatic 348, 3) := by decide +kernel
theorem dX9_fewestEmpty_39 : decode cX9_fewestEmpty 39 = .ok (.istore 6, 2) := by decide +kernel
theorem dX9_fewestEmpty_41 : decode cX9_fewestEmpty 41 = .ok (.iload 6, 2) := by decide +kernel
theorem dX9_fewestEmpty_43 : decode cX9_fewestEmpty 43 = .ok (.iload 4, 2) := by decide +kernel
theorem dX9_fewestEmpty_45 : decode cX9_fewestEmpty 45 = .ok (.if_icmp .lt 6, 3) := by decide +kernel
theorem dX9_fewestEmpty_48 : decode cX9_fewestEmpty 48 = .ok (.goto 46, 3) := by decide +kernel
theorem dX9_fewestEmpty_51 : decode cX9_fewestEmpty 51 = .ok (.aload_n 0, 1) := by decide +kernel
theorem dX9_fewestEmpty_52 : decode cX9_fewestEmpty 52 = .ok (.getfield 63, 3) := by decide +kernel
theorem dX9_fewestEmpty_55 : decode cX9_fewestEmpty 55 = .ok (.iload 5, 2) := by decide +kernel
theorem dX9_fewestEmpty_57 : decode cX9_fewestEmpty 57 = .ok (.putfield 136, 3) := by decide +kernel
theorem dX9_fewestEmpty_60 : decode cX9_fewestEmpty 60 = .ok (.aload_n 0, 1) := by decide +kernel
theorem dX9_fewestEmpty_61 : decode cX9_fewestEmpty 61 = .ok (.getfield 69, 3) := by decide +kernel
theorem dX9_fewestEmpty_64 : decode cX9_fewestEmpty 64 = .ok (.aload_n 0, 1) := by decide +kernel
theorem dX9_fewestEmpty_65 : decode cX9_fewestEmpty 65 = .ok (.getfield 63, 3) := by decide +kernel
theorem dX9_fewestEmpty_68 : decode cX9_fewestEmpty 68 = .ok (.aload_n 0, 1) := by decide +kernel
theorem dX9_fewestEmpty_69 : decode cX9_fewestEmpty 69 = .ok (.getfield 31, 3) := by decide +kernel
theorem dX9_fewestEmpty_72 : decode cX9_fewestEmpty 72 = .ok (.iload_n 2, 1) := by decide +kernel
theorem dX9_fewestEmpty_73 : decode cX9_fewestEmpty 73 = .ok (.invokevirtual 194, 3) := by decide +kernel
theorem dX9_fewestEmpty_76 : decode cX9_fewestEmpty 76 = .ok (.aload_n 0, 1) := by decide +kernel
theorem dX9_fewestEmpty_77 : decode cX9_fewestEmpty 77 = .ok (.getfield 69, 3) := by decide +kernel
theorem dX9_fewestEmpty_80 : decode cX9_fewestEmpty 80 = .ok (.getfield 198, 3) := by decide +kernel
theorem dX9_fewestEmpty_83 : decode cX9_fewestEmpty 83 = .ok (.iload_n 1, 1) := by decide +kernel
theorem dX9_fewestEmpty_84 : decode cX9_fewestEmpty 84 = .ok (.if_icmp .ne 10, 3) := by decide +kernel
theorem dX9_fewestEmpty_87 : decode cX9_fewestEmpty 87 = .ok (.iload 5, 2) := by decide +kernel
theorem dX9_fewestEmpty_89 : decode cX9_fewestEmpty 89 = .ok (.istore_n 3, 1) := by decide +kernel
theorem dX9_fewestEmpty_90 : decode cX9_fewestEmpty 90 = .ok (.iload 6, 2) := by decide +kernel
theorem dX9_fewestEmpty_92 : decode cX9_fewestEmpty 92 = .ok (.istore 4, 2) := by decide +kernel
theorem dX9_fewestEmpty_94 : decode cX9_fewestEmpty 94 = .ok (.iinc 5 1, 3) := by decide +kernel
theorem dX9_fewestEmpty_97 : decode cX9_fewestEmpty 97 = .ok (.goto (-77), 3) := by decide +kernel
theorem dX9_fewestEmpty_100 : decode cX9_fewestEmpty 100 = .ok (.iload_n 3, 1) := by decide +kernel
theorem dX9_fewestEmpty_101 : decode cX9_fewestEmpty 101 = .ok (.ireturn, 1) := by decide +kernel
theorem dX9_howMany_0 : decode cX9_howMany 0 = .ok (.iload_n 0, 1) := by decide +kernel
theorem dX9_howMany_1 : decode cX9_howMany 1 = .ok (.iconst (-1), 1) := by decide +kernel
theorem dX9_howMany_2 : decode cX9_howMany 2 = .ok (.if_icmp .ne 7, 3) := by decide +kernel
theorem dX9_howMany_5 : decode cX9_howMany 5 = .ok (.iconst (-1), 1) := by decide +kernel
theorem dX9_howMany_6 : decode cX9_howMany 6 = .ok (.goto 7, 3) := by decide +kernel
theorem dX9_howMany_9 : decode cX9_howMany 9 = .ok (.iload_n 0, 1) := by decide +kernel
theorem dX9_howMany_10 : decode cX9_howMany 10 = .ok (.invokestatic 348, 3) := by decide +kernel
theorem dX9_howMany_13 : decode cX9_howMany 13 = .ok (.ireturn, 1) := by decide +kernel
theorem dX9_twiceFits_0 : decode cX9_twiceFits 0 = .ok (.iconst 0, 1) := by decide +kernel
theorem dX9_twiceFits_1 : decode cX9_twiceFits 1 = .ok (.istore_n 2, 1) := by decide +kernel
theorem dX9_twiceFits_2 : decode cX9_twiceFits 2 = .ok (.iload_n 2, 1) := by decide +kernel
theorem dX9_twiceFits_3 : decode cX9_twiceFits 3 = .ok (.aload_n 0, 1) := by decide +kernel
theorem dX9_twiceFits_4 : decode cX9_twiceFits 4 = .ok (.getfield 45, 3) := by decide +kernel
theorem dX9_twiceFits_7 : decode cX9_twiceFits 7 = .ok (.getfield 204, 3) := by decide +kernel
theorem dX9_twiceFits_10 : decode cX9_twiceFits 10 = .ok (.if_icmp .ge 60, 3) := by decide +kernel
theorem dX9_twiceFits_13 : decode cX9_twiceFits 13 = .ok (.aload_n 0, 1) := by decide +kernel
theorem dX9_twiceFits_14 : decode cX9_twiceFits 14 = .ok (.getfield 45, 3) := by decide +kernel
theorem dX9_twiceFits_17 : decode cX9_twiceFits 17 = .ok (.getfield 353, 3) := by decide +kernel
theorem dX9_twiceFits_20 : decode cX9_twiceFits 20 = .ok (.iload_n 2, 1) := by decide +kernel
theorem dX9_twiceFits_21 : decode cX9_twiceFits 21 = .ok (.iaload, 1) := by decide +kernel
theorem dX9_twiceFits_22 : decode cX9_twiceFits 22 = .ok (.istore_n 3, 1) := by decide +kernel
theorem dX9_twiceFits_23 : decode cX9_twiceFits 23 = .ok (.aload_n 0, 1) := by decide +kernel
theorem dX9_twiceFits_24 : decode cX9_twiceFits 24 = .ok (.iload_n 3, 1) := by decide +kernel
theorem dX9_twiceFits_25 : decode cX9_twiceFits 25 = .ok (.invokevirtual 106, 3) := by decide +kernel
theorem dX9_twiceFits_28 : decode cX9_twiceFits 28 = .ok (.ifCond .eq 34, 3) := by decide +kernel
theorem dX9_twiceFits_31 : decode cX9_twiceFits 31 = .ok (.aload_n 0, 1) := by decide +kernel
theorem dX9_twiceFits_32 : decode cX9_twiceFits 32 = .ok (.getfield 38, 3) := by decide +kernel
theorem dX9_twiceFits_35 : decode cX9_twiceFits 35 = .ok (.getfield 161, 3) := by decide +kernel
theorem dX9_twiceFits_38 : decode cX9_twiceFits 38 = .ok (.iload_n 3, 1) := by decide +kernel
theorem dX9_twiceFits_39 : decode cX9_twiceFits 39 = .ok (.iaload, 1) := by decide +kernel
theorem dX9_twiceFits_40 : decode cX9_twiceFits 40 = .ok (.aload_n 0, 1) := by decide +kernel
theorem dX9_twiceFits_41 : decode cX9_twiceFits 41 = .ok (.getfield 38, 3) := by decide +kernel
theorem dX9_twiceFits_44 : decode cX9_twiceFits 44 = .ok (.iload_n 1, 1) := by decide +kernel
theorem dX9_twiceFits_45 : decode cX9_twiceFits 45 = .ok (.iload_n 3, 1) := by decide +kernel
theorem dX9_twiceFits_46 : decode cX9_twiceFits 46 = .ok (.invokevirtual 145, 3) := by decide +kernel
theorem dX9_twiceFits_49 : decode cX9_twiceFits 49 = .ok (.iadd, 1) := by decide +kernel
theorem dX9_twiceFits_50 : decode cX9_twiceFits 50 = .ok (.aload_n 0, 1) := by decide +kernel
theorem dX9_twiceFits_51 : decode cX9_twiceFits 51 = .ok (.getfield 45, 3) := by decide +kernel
theorem dX9_twiceFits_54 : decode cX9_twiceFits 54 = .ok (.getfield 356, 3) := by decide +kernel
theorem dX9_twiceFits_57 : decode cX9_twiceFits 57 = .ok (.iload_n 2, 1) := by decide +kernel
theorem dX9_twiceFits_58 : decode cX9_twiceFits 58 = .ok (.iaload, 1) := by decide +kernel
theorem dX9_twiceFits_59 : decode cX9_twiceFits 59 = .ok (.if_icmp .eq 5, 3) := by decide +kernel
theorem dX9_twiceFits_62 : decode cX9_twiceFits 62 = .ok (.iconst 0, 1) := by decide +kernel
theorem dX9_twiceFits_63 : decode cX9_twiceFits 63 = .ok (.ireturn, 1) := by decide +kernel
theorem dX9_twiceFits_64 : decode cX9_twiceFits 64 = .ok (.iinc 2 1, 3) := by decide +kernel
theorem dX9_twiceFits_67 : decode cX9_twiceFits 67 = .ok (.goto (-65), 3) := by decide +kernel
theorem dX9_twiceFits_70 : decode cX9_twiceFits 70 = .ok (.iconst 1, 1) := by decide +kernel
theorem dX9_twiceFits_71 : decode cX9_twiceFits 71 = .ok (.ireturn, 1) := by decide +kernel
theorem dX9_walkFits_0 : decode cX9_walkFits 0 = .ok (.iconst 0, 1) := by decide +kernel
theorem dX9_walkFits_1 : decode cX9_walkFits 1 = .ok (.istore_n 2, 1) := by decide +kernel
theorem dX9_walkFits_2 : decode cX9_walkFits 2 = .ok (.iload_n 2, 1) := by decide +kernel
theorem dX9_walkFits_3 : decode cX9_walkFits 3 = .ok (.aload_n 0, 1) := by decide +kernel
theorem dX9_walkFits_4 : decode cX9_walkFits 4 = .ok (.getfield 45, 3) := by decide +kernel
theorem dX9_walkFits_7 : decode cX9_walkFits 7 = .ok (.getfield 204, 3) := by decide +kernel
theorem dX9_walkFits_10 : decode cX9_walkFits 10 = .ok (.if_icmp .ge 76, 3) := by decide +kernel
theorem dX9_walkFits_13 : decode cX9_walkFits 13 = .ok (.aload_n 0, 1) := by decide +kernel
theorem dX9_walkFits_14 : decode cX9_walkFits 14 = .ok (.getfield 45, 3) := by decide +kernel
theorem dX9_walkFits_17 : decode cX9_walkFits 17 = .ok (.getfield 353, 3) := by decide +kernel
theorem dX9_walkFits_20 : decode cX9_walkFits 20 = .ok (.iload_n 2, 1) := by decide +kernel
theorem dX9_walkFits_21 : decode cX9_walkFits 21 = .ok (.iaload, 1) := by decide +kernel
theorem dX9_walkFits_22 : decode cX9_walkFits 22 = .ok (.istore_n 3, 1) := by decide +kernel
theorem dX9_walkFits_23 : decode cX9_walkFits 23 = .ok (.aload_n 0, 1) := by decide +kernel
theorem dX9_walkFits_24 : decode cX9_walkFits 24 = .ok (.iload_n 3, 1) := by decide +kernel
theorem dX9_walkFits_25 : decode cX9_walkFits 25 = .ok (.invokevirtual 106, 3) := by decide +kernel
theorem dX9_walkFits_28 : decode cX9_walkFits 28 = .ok (.ifCond .ne 5, 3) := by decide +kernel
theorem dX9_walkFits_31 : decode cX9_walkFits 31 = .ok (.iconst 0, 1) := by decide +kernel
theorem dX9_walkFits_32 : decode cX9_walkFits 32 = .ok (.ireturn, 1) := by decide +kernel
theorem dX9_walkFits_33 : decode cX9_walkFits 33 = .ok (.aload_n 0, 1) := by decide +kernel
theorem dX9_walkFits_34 : decode cX9_walkFits 34 = .ok (.getfield 38, 3) := by decide +kernel
theorem dX9_walkFits_37 : decode cX9_walkFits 37 = .ok (.getfield 161, 3) := by decide +kernel
theorem dX9_walkFits_40 : decode cX9_walkFits 40 = .ok (.iload_n 3, 1) := by decide +kernel
theorem dX9_walkFits_41 : decode cX9_walkFits 41 = .ok (.iaload, 1) := by decide +kernel
theorem dX9_walkFits_42 : decode cX9_walkFits 42 = .ok (.aload_n 0, 1) := by decide +kernel
theorem dX9_walkFits_43 : decode cX9_walkFits 43 = .ok (.getfield 38, 3) := by decide +kernel
theorem dX9_walkFits_46 : decode cX9_walkFits 46 = .ok (.iload_n 1, 1) := by decide +kernel
theorem dX9_walkFits_47 : decode cX9_walkFits 47 = .ok (.iload_n 3, 1) := by decide +kernel
theorem dX9_walkFits_48 : decode cX9_walkFits 48 = .ok (.invokevirtual 145, 3) := by decide +kernel
theorem dX9_walkFits_51 : decode cX9_walkFits 51 = .ok (.isub, 1) := by decide +kernel
theorem dX9_walkFits_52 : decode cX9_walkFits 52 = .ok (.istore 4, 2) := by decide +kernel
theorem dX9_walkFits_54 : decode cX9_walkFits 54 = .ok (.iload 4, 2) := by decide +kernel
theorem dX9_walkFits_56 : decode cX9_walkFits 56 = .ok (.aload_n 0, 1) := by decide +kernel
theorem dX9_walkFits_57 : decode cX9_walkFits 57 = .ok (.getfield 69, 3) := by decide +kernel
theorem dX9_walkFits_60 : decode cX9_walkFits 60 = .ok (.getfield 342, 3) := by decide +kernel
theorem dX9_walkFits_63 : decode cX9_walkFits 63 = .ok (.iload_n 3, 1) := by decide +kernel
theorem dX9_walkFits_64 : decode cX9_walkFits 64 = .ok (.iaload, 1) := by decide +kernel
theorem dX9_walkFits_65 : decode cX9_walkFits 65 = .ok (.iadd, 1) := by decide +kernel
theorem dX9_walkFits_66 : decode cX9_walkFits 66 = .ok (.aload_n 0, 1) := by decide +kernel
theorem dX9_walkFits_67 : decode cX9_walkFits 67 = .ok (.getfield 45, 3) := by decide +kernel
theorem dX9_walkFits_70 : decode cX9_walkFits 70 = .ok (.getfield 356, 3) := by decide +kernel
theorem dX9_walkFits_73 : decode cX9_walkFits 73 = .ok (.iload_n 2, 1) := by decide +kernel
theorem dX9_walkFits_74 : decode cX9_walkFits 74 = .ok (.iaload, 1) := by decide +kernel
theorem dX9_walkFits_75 : decode cX9_walkFits 75 = .ok (.if_icmp .eq 5, 3) := by decide +kernel
theorem dX9_walkFits_78 : decode cX9_walkFits 78 = .ok (.iconst 0, 1) := by decide +kernel
theorem dX9_walkFits_79 : decode cX9_walkFits 79 = .ok (.ireturn, 1) := by decide +kernel
theorem dX9_walkFits_80 : decode cX9_walkFits 80 = .ok (.iinc 2 1, 3) := by decide +kernel
theorem dX9_walkFits_83 : decode cX9_walkFits 83 = .ok (.goto (-81), 3) := by decide +kernel
theorem dX9_walkFits_86 : decode cX9_walkFits 86 = .ok (.iconst 1, 1) := by decide +kernel
theorem dX9_walkFits_87 : decode cX9_walkFits 87 = .ok (.ireturn, 1) := by decide +kernel
theorem dX9_mostAlike_0 : decode cX9_mostAlike 0 = .ok (.iconst 0, 1) := by decide +kernel
theorem dX9_mostAlike_1 : decode cX9_mostAlike 1 = .ok (.istore_n 3, 1) := by decide +kernel
theorem dX9_mostAlike_2 : decode cX9_mostAlike 2 = .ok (.iconst 0, 1) := by decide +kernel
theorem dX9_mostAlike_3 : decode cX9_mostAlike 3 = .ok (.istore 4, 2) := by decide +kernel
theorem dX9_mostAlike_5 : decode cX9_mostAlike 5 = .ok (.iload 4, 2) := by decide +kernel
theorem dX9_mostAlike_7 : decode cX9_mostAlike 7 = .ok (.aload_n 0, 1) := by decide +kernel
theorem dX9_mostAlike_8 : decode cX9_mostAlike 8 = .ok (.getfield 31, 3) := by decide +kernel
theorem dX9_mostAlike_11 : decode cX9_mostAlike 11 = .ok (.getfield 224, 3) := by decide +kernel
theorem dX9_mostAlike_14 : decode cX9_mostAlike 14 = .ok (.if_icmp .ge 31, 3) := by decide +kernel
theorem dX9_mostAlike_17 : decode cX9_mostAlike 17 = .ok (.iload_n 2, 1) := by decide +kernel
theorem dX9_mostAlike_18 : decode cX9_mostAlike 18 = .ok (.iload 4, 2) := by decide +kernel
theorem dX9_mostAlike_20 : decode cX9_mostAlike 20 = .ok (.ishr, 1) := by decide +kernel
theorem dX9_mostAlike_21 : decode cX9_mostAlike 21 = .ok (.iconst 1, 1) := by decide +kernel
theorem dX9_mostAlike_22 : decode cX9_mostAlike 22 = .ok (.iand, 1) := by decide +kernel
theorem dX9_mostAlike_23 : decode cX9_mostAlike 23 = .ok (.ifCond .eq 16, 3) := by decide +kernel
theorem dX9_mostAlike_26 : decode cX9_mostAlike 26 = .ok (.iload_n 3, 1) := by decide +kernel
theorem dX9_mostAlike_27 : decode cX9_mostAlike 27 = .ok (.aload_n 0, 1) := by decide +kernel
theorem dX9_mostAlike_28 : decode cX9_mostAlike 28 = .ok (.iload 4, 2) := by decide +kernel
theorem dX9_mostAlike_30 : decode cX9_mostAlike 30 = .ok (.iload_n 1, 1) := by decide +kernel
theorem dX9_mostAlike_31 : decode cX9_mostAlike 31 = .ok (.iload_n 2, 1) := by decide +kernel
theorem dX9_mostAlike_32 : decode cX9_mostAlike 32 = .ok (.invokevirtual 359, 3) := by decide +kernel
theorem dX9_mostAlike_35 : decode cX9_mostAlike 35 = .ok (.invokestatic 362, 3) := by decide +kernel
theorem dX9_mostAlike_38 : decode cX9_mostAlike 38 = .ok (.istore_n 3, 1) := by decide +kernel
theorem dX9_mostAlike_39 : decode cX9_mostAlike 39 = .ok (.iinc 4 1, 3) := by decide +kernel
theorem dX9_mostAlike_42 : decode cX9_mostAlike 42 = .ok (.goto (-37), 3) := by decide +kernel
theorem dX9_mostAlike_45 : decode cX9_mostAlike 45 = .ok (.iload_n 3, 1) := by decide +kernel
theorem dX9_mostAlike_46 : decode cX9_mostAlike 46 = .ok (.ireturn, 1) := by decide +kernel
theorem dX9_alikeTo_0 : decode cX9_alikeTo 0 = .ok (.iconst 0, 1) := by decide +kernel
theorem dX9_alikeTo_1 : decode cX9_alikeTo 1 = .ok (.istore 4, 2) := by decide +kernel
theorem dX9_alikeTo_3 : decode cX9_alikeTo 3 = .ok (.iconst 0, 1) := by decide +kernel
theorem dX9_alikeTo_4 : decode cX9_alikeTo 4 = .ok (.istore 5, 2) := by decide +kernel
theorem dX9_alikeTo_6 : decode cX9_alikeTo 6 = .ok (.iload 5, 2) := by decide +kernel
theorem dX9_alikeTo_8 : decode cX9_alikeTo 8 = .ok (.aload_n 0, 1) := by decide +kernel
theorem dX9_alikeTo_9 : decode cX9_alikeTo 9 = .ok (.getfield 31, 3) := by decide +kernel
theorem dX9_alikeTo_12 : decode cX9_alikeTo 12 = .ok (.getfield 224, 3) := by decide +kernel
theorem dX9_alikeTo_15 : decode cX9_alikeTo 15 = .ok (.if_icmp .ge 43, 3) := by decide +kernel
theorem dX9_alikeTo_18 : decode cX9_alikeTo 18 = .ok (.iload_n 3, 1) := by decide +kernel
theorem dX9_alikeTo_19 : decode cX9_alikeTo 19 = .ok (.iload 5, 2) := by decide +kernel
theorem dX9_alikeTo_21 : decode cX9_alikeTo 21 = .ok (.ishr, 1) := by decide +kernel
theorem dX9_alikeTo_22 : decode cX9_alikeTo 22 = .ok (.iconst 1, 1) := by decide +kernel
theorem dX9_alikeTo_23 : decode cX9_alikeTo 23 = .ok (.iand, 1) := by decide +kernel
theorem dX9_alikeTo_24 : decode cX9_alikeTo 24 = .ok (.ifCond .eq 28, 3) := by decide +kernel
theorem dX9_alikeTo_27 : decode cX9_alikeTo 27 = .ok (.aload_n 0, 1) := by decide +kernel
theorem dX9_alikeTo_28 : decode cX9_alikeTo 28 = .ok (.getfield 38, 3) := by decide +kernel
theorem dX9_alikeTo_31 : decode cX9_alikeTo 31 = .ok (.iload 5, 2) := by decide +kernel
theorem dX9_alikeTo_33 : decode cX9_alikeTo 33 = .ok (.iload_n 2, 1) := by decide +kernel
theorem dX9_alikeTo_34 : decode cX9_alikeTo 34 = .ok (.invokevirtual 145, 3) := by decide +kernel
theorem dX9_alikeTo_37 : decode cX9_alikeTo 37 = .ok (.aload_n 0, 1) := by decide +kernel
theorem dX9_alikeTo_38 : decode cX9_alikeTo 38 = .ok (.getfield 38, 3) := by decide +kernel
theorem dX9_alikeTo_41 : decode cX9_alikeTo 41 = .ok (.iload_n 1, 1) := by decide +kernel
theorem dX9_alikeTo_42 : decode cX9_alikeTo 42 = .ok (.iload_n 2, 1) := by decide +kernel
theorem dX9_alikeTo_43 : decode cX9_alikeTo 43 = .ok (.invokevirtual 145, 3) := by decide +kernel
theorem dX9_alikeTo_46 : decode cX9_alikeTo 46 = .ok (.if_icmp .ne 6, 3) := by decide +kernel
theorem dX9_alikeTo_49 : decode cX9_alikeTo 49 = .ok (.iinc 4 1, 3) := by decide +kernel
theorem dX9_alikeTo_52 : decode cX9_alikeTo 52 = .ok (.iinc 5 1, 3) := by decide +kernel
theorem dX9_alikeTo_55 : decode cX9_alikeTo 55 = .ok (.goto (-49), 3) := by decide +kernel
theorem dX9_alikeTo_58 : decode cX9_alikeTo 58 = .ok (.iload 4, 2) := by decide +kernel
theorem dX9_alikeTo_60 : decode cX9_alikeTo 60 = .ok (.ireturn, 1) := by decide +kernel
theorem dX9_givenInAll_0 : decode cX9_givenInAll 0 = .ok (.iconst 0, 1) := by decide +kernel
theorem dX9_givenInAll_1 : decode cX9_givenInAll 1 = .ok (.istore_n 1, 1) := by decide +kernel
theorem dX9_givenInAll_2 : decode cX9_givenInAll 2 = .ok (.iconst 0, 1) := by decide +kernel
theorem dX9_givenInAll_3 : decode cX9_givenInAll 3 = .ok (.istore_n 2, 1) := by decide +kernel
theorem dX9_givenInAll_4 : decode cX9_givenInAll 4 = .ok (.iload_n 2, 1) := by decide +kernel
theorem dX9_givenInAll_5 : decode cX9_givenInAll 5 = .ok (.aload_n 0, 1) := by decide +kernel
theorem dX9_givenInAll_6 : decode cX9_givenInAll 6 = .ok (.getfield 24, 3) := by decide +kernel
theorem dX9_givenInAll_9 : decode cX9_givenInAll 9 = .ok (.getfield 139, 3) := by decide +kernel
theorem dX9_givenInAll_12 : decode cX9_givenInAll 12 = .ok (.if_icmp .ge 21, 3) := by decide +kernel
theorem dX9_givenInAll_15 : decode cX9_givenInAll 15 = .ok (.iload_n 1, 1) := by decide +kernel
theorem dX9_givenInAll_16 : decode cX9_givenInAll 16 = .ok (.aload_n 0, 1) := by decide +kernel
theorem dX9_givenInAll_17 : decode cX9_givenInAll 17 = .ok (.getfield 38, 3) := by decide +kernel
theorem dX9_givenInAll_20 : decode cX9_givenInAll 20 = .ok (.getfield 161, 3) := by decide +kernel
theorem dX9_givenInAll_23 : decode cX9_givenInAll 23 = .ok (.iload_n 2, 1) := by decide +kernel
theorem dX9_givenInAll_24 : decode cX9_givenInAll 24 = .ok (.iaload, 1) := by decide +kernel
theorem dX9_givenInAll_25 : decode cX9_givenInAll 25 = .ok (.iadd, 1) := by decide +kernel
theorem dX9_givenInAll_26 : decode cX9_givenInAll 26 = .ok (.istore_n 1, 1) := by decide +kernel
theorem dX9_givenInAll_27 : decode cX9_givenInAll 27 = .ok (.iinc 2 1, 3) := by decide +kernel
theorem dX9_givenInAll_30 : decode cX9_givenInAll 30 = .ok (.goto (-26), 3) := by decide +kernel
theorem dX9_givenInAll_33 : decode cX9_givenInAll 33 = .ok (.iload_n 1, 1) := by decide +kernel
theorem dX9_givenInAll_34 : decode cX9_givenInAll 34 = .ok (.ireturn, 1) := by decide +kernel
theorem dX9_sleepersInAll_0 : decode cX9_sleepersInAll 0 = .ok (.iconst 0, 1) := by decide +kernel
theorem dX9_sleepersInAll_1 : decode cX9_sleepersInAll 1 = .ok (.istore_n 1, 1) := by decide +kernel
theorem dX9_sleepersInAll_2 : decode cX9_sleepersInAll 2 = .ok (.iconst 0, 1) := by decide +kernel
theorem dX9_sleepersInAll_3 : decode cX9_sleepersInAll 3 = .ok (.istore_n 2, 1) := by decide +kernel
theorem dX9_sleepersInAll_4 : decode cX9_sleepersInAll 4 = .ok (.iload_n 2, 1) := by decide +kernel
theorem dX9_sleepersInAll_5 : decode cX9_sleepersInAll 5 = .ok (.aload_n 0, 1) := by decide +kernel
theorem dX9_sleepersInAll_6 : decode cX9_sleepersInAll 6 = .ok (.getfield 31, 3) := by decide +kernel
theorem dX9_sleepersInAll_9 : decode cX9_sleepersInAll 9 = .ok (.getfield 224, 3) := by decide +kernel
theorem dX9_sleepersInAll_12 : decode cX9_sleepersInAll 12 = .ok (.if_icmp .ge 25, 3) := by decide +kernel
theorem dX9_sleepersInAll_15 : decode cX9_sleepersInAll 15 = .ok (.aload_n 0, 1) := by decide +kernel
theorem dX9_sleepersInAll_16 : decode cX9_sleepersInAll 16 = .ok (.getfield 38, 3) := by decide +kernel
theorem dX9_sleepersInAll_19 : decode cX9_sleepersInAll 19 = .ok (.getfield 149, 3) := by decide +kernel
theorem dX9_sleepersInAll_22 : decode cX9_sleepersInAll 22 = .ok (.iload_n 2, 1) := by decide +kernel
theorem dX9_sleepersInAll_23 : decode cX9_sleepersInAll 23 = .ok (.iaload, 1) := by decide +kernel
theorem dX9_sleepersInAll_24 : decode cX9_sleepersInAll 24 = .ok (.iconst (-1), 1) := by decide +kernel
theorem dX9_sleepersInAll_25 : decode cX9_sleepersInAll 25 = .ok (.if_icmp .eq 6, 3) := by decide +kernel
theorem dX9_sleepersInAll_28 : decode cX9_sleepersInAll 28 = .ok (.iinc 1 1, 3) := by decide +kernel
theorem dX9_sleepersInAll_31 : decode cX9_sleepersInAll 31 = .ok (.iinc 2 1, 3) := by decide +kernel
theorem dX9_sleepersInAll_34 : decode cX9_sleepersInAll 34 = .ok (.goto (-30), 3) := by decide +kernel
theorem dX9_sleepersInAll_37 : decode cX9_sleepersInAll 37 = .ok (.iload_n 1, 1) := by decide +kernel
theorem dX9_sleepersInAll_38 : decode cX9_sleepersInAll 38 = .ok (.ireturn, 1) := by decide +kernel
theorem dX9_mixHouse_0 : decode cX9_mixHouse 0 = .ok (.lload_n 1, 1) := by decide +kernel
theorem dX9_mixHouse_1 : decode cX9_mixHouse 1 = .ok (.lstore 4, 2) := by decide +kernel
theorem dX9_mixHouse_3 : decode cX9_mixHouse 3 = .ok (.iconst 0, 1) := by decide +kernel
theorem dX9_mixHouse_4 : decode cX9_mixHouse 4 = .ok (.istore 6, 2) := by decide +kernel
theorem dX9_mixHouse_6 : decode cX9_mixHouse 6 = .ok (.iload 6, 2) := by decide +kernel
theorem dX9_mixHouse_8 : decode cX9_mixHouse 8 = .ok (.iconst 2, 1) := by decide +kernel
theorem dX9_mixHouse_9 : decode cX9_mixHouse 9 = .ok (.if_icmp .gt 26, 3) := by decide +kernel
theorem dX9_mixHouse_12 : decode cX9_mixHouse 12 = .ok (.ldc2_w 294, 3) := by decide +kernel
theorem dX9_mixHouse_15 : decode cX9_mixHouse 15 = .ok (.lload 4, 2) := by decide +kernel
theorem dX9_mixHouse_17 : decode cX9_mixHouse 17 = .ok (.lmul, 1) := by decide +kernel
theorem dX9_mixHouse_18 : decode cX9_mixHouse 18 = .ok (.aload_n 0, 1) := by decide +kernel
theorem dX9_mixHouse_19 : decode cX9_mixHouse 19 = .ok (.iload_n 3, 1) := by decide +kernel
theorem dX9_mixHouse_20 : decode cX9_mixHouse 20 = .ok (.iload 6, 2) := by decide +kernel
theorem dX9_mixHouse_22 : decode cX9_mixHouse 22 = .ok (.invokevirtual 365, 3) := by decide +kernel
theorem dX9_mixHouse_25 : decode cX9_mixHouse 25 = .ok (.i2l, 1) := by decide +kernel
theorem dX9_mixHouse_26 : decode cX9_mixHouse 26 = .ok (.ladd, 1) := by decide +kernel
theorem dX9_mixHouse_27 : decode cX9_mixHouse 27 = .ok (.lstore 4, 2) := by decide +kernel
theorem dX9_mixHouse_29 : decode cX9_mixHouse 29 = .ok (.iinc 6 1, 3) := by decide +kernel
theorem dX9_mixHouse_32 : decode cX9_mixHouse 32 = .ok (.goto (-26), 3) := by decide +kernel
theorem dX9_mixHouse_35 : decode cX9_mixHouse 35 = .ok (.ldc2_w 294, 3) := by decide +kernel
theorem dX9_mixHouse_38 : decode cX9_mixHouse 38 = .ok (.lload 4, 2) := by decide +kernel
theorem dX9_mixHouse_40 : decode cX9_mixHouse 40 = .ok (.lmul, 1) := by decide +kernel
theorem dX9_mixHouse_41 : decode cX9_mixHouse 41 = .ok (.aload_n 0, 1) := by decide +kernel
theorem dX9_mixHouse_42 : decode cX9_mixHouse 42 = .ok (.iload_n 3, 1) := by decide +kernel
theorem dX9_mixHouse_43 : decode cX9_mixHouse 43 = .ok (.invokevirtual 367, 3) := by decide +kernel
theorem dX9_mixHouse_46 : decode cX9_mixHouse 46 = .ok (.i2l, 1) := by decide +kernel
theorem dX9_mixHouse_47 : decode cX9_mixHouse 47 = .ok (.ladd, 1) := by decide +kernel
theorem dX9_mixHouse_48 : decode cX9_mixHouse 48 = .ok (.lstore 4, 2) := by decide +kernel
theorem dX9_mixHouse_50 : decode cX9_mixHouse 50 = .ok (.ldc2_w 294, 3) := by decide +kernel
theorem dX9_mixHouse_53 : decode cX9_mixHouse 53 = .ok (.lload 4, 2) := by decide +kernel
theorem dX9_mixHouse_55 : decode cX9_mixHouse 55 = .ok (.lmul, 1) := by decide +kernel
theorem dX9_mixHouse_56 : decode cX9_mixHouse 56 = .ok (.aload_n 0, 1) := by decide +kernel
theorem dX9_mixHouse_57 : decode cX9_mixHouse 57 = .ok (.iload_n 3, 1) := by decide +kernel
theorem dX9_mixHouse_58 : decode cX9_mixHouse 58 = .ok (.iconst 0, 1) := by decide +kernel
theorem dX9_mixHouse_59 : decode cX9_mixHouse 59 = .ok (.invokevirtual 370, 3) := by decide +kernel
theorem dX9_mixHouse_62 : decode cX9_mixHouse 62 = .ok (.i2l, 1) := by decide +kernel
theorem dX9_mixHouse_63 : decode cX9_mixHouse 63 = .ok (.ladd, 1) := by decide +kernel
theorem dX9_mixHouse_64 : decode cX9_mixHouse 64 = .ok (.lstore 4, 2) := by decide +kernel
theorem dX9_mixHouse_66 : decode cX9_mixHouse 66 = .ok (.ldc2_w 294, 3) := by decide +kernel
theorem dX9_mixHouse_69 : decode cX9_mixHouse 69 = .ok (.lload 4, 2) := by decide +kernel
theorem dX9_mixHouse_71 : decode cX9_mixHouse 71 = .ok (.lmul, 1) := by decide +kernel
theorem dX9_mixHouse_72 : decode cX9_mixHouse 72 = .ok (.aload_n 0, 1) := by decide +kernel
theorem dX9_mixHouse_73 : decode cX9_mixHouse 73 = .ok (.iload_n 3, 1) := by decide +kernel
theorem dX9_mixHouse_74 : decode cX9_mixHouse 74 = .ok (.iconst 1, 1) := by decide +kernel
theorem dX9_mixHouse_75 : decode cX9_mixHouse 75 = .ok (.invokevirtual 370, 3) := by decide +kernel
theorem dX9_mixHouse_78 : decode cX9_mixHouse 78 = .ok (.i2l, 1) := by decide +kernel
theorem dX9_mixHouse_79 : decode cX9_mixHouse 79 = .ok (.ladd, 1) := by decide +kernel
theorem dX9_mixHouse_80 : decode cX9_mixHouse 80 = .ok (.lstore 4, 2) := by decide +kernel
theorem dX9_mixHouse_82 : decode cX9_mixHouse 82 = .ok (.ldc2_w 294, 3) := by decide +kernel
theorem dX9_mixHouse_85 : decode cX9_mixHouse 85 = .ok (.lload 4, 2) := by decide +kernel
theorem dX9_mixHouse_87 : decode cX9_mixHouse 87 = .ok (.lmul, 1) := by decide +kernel
theorem dX9_mixHouse_88 : decode cX9_mixHouse 88 = .ok (.aload_n 0, 1) := by decide +kernel
theorem dX9_mixHouse_89 : decode cX9_mixHouse 89 = .ok (.iload_n 3, 1) := by decide +kernel
theorem dX9_mixHouse_90 : decode cX9_mixHouse 90 = .ok (.invokevirtual 373, 3) := by decide +kernel
theorem dX9_mixHouse_93 : decode cX9_mixHouse 93 = .ok (.i2l, 1) := by decide +kernel
theorem dX9_mixHouse_94 : decode cX9_mixHouse 94 = .ok (.ladd, 1) := by decide +kernel
theorem dX9_mixHouse_95 : decode cX9_mixHouse 95 = .ok (.lreturn, 1) := by decide +kernel
theorem dX9_mixPlans_0 : decode cX9_mixPlans 0 = .ok (.lload_n 1, 1) := by decide +kernel
theorem dX9_mixPlans_1 : decode cX9_mixPlans 1 = .ok (.lstore 4, 2) := by decide +kernel
theorem dX9_mixPlans_3 : decode cX9_mixPlans 3 = .ok (.aload_n 0, 1) := by decide +kernel
theorem dX9_mixPlans_4 : decode cX9_mixPlans 4 = .ok (.iload_n 3, 1) := by decide +kernel
theorem dX9_mixPlans_5 : decode cX9_mixPlans 5 = .ok (.invokevirtual 170, 3) := by decide +kernel
theorem dX9_mixPlans_8 : decode cX9_mixPlans 8 = .ok (.ldc2_w 294, 3) := by decide +kernel
theorem dX9_mixPlans_11 : decode cX9_mixPlans 11 = .ok (.lload 4, 2) := by decide +kernel
theorem dX9_mixPlans_13 : decode cX9_mixPlans 13 = .ok (.lmul, 1) := by decide +kernel
theorem dX9_mixPlans_14 : decode cX9_mixPlans 14 = .ok (.aload_n 0, 1) := by decide +kernel
theorem dX9_mixPlans_15 : decode cX9_mixPlans 15 = .ok (.getfield 76, 3) := by decide +kernel
theorem dX9_mixPlans_18 : decode cX9_mixPlans 18 = .ok (.getfield 174, 3) := by decide +kernel
theorem dX9_mixPlans_21 : decode cX9_mixPlans 21 = .ok (.i2l, 1) := by decide +kernel
theorem dX9_mixPlans_22 : decode cX9_mixPlans 22 = .ok (.ladd, 1) := by decide +kernel
theorem dX9_mixPlans_23 : decode cX9_mixPlans 23 = .ok (.lstore 4, 2) := by decide +kernel
theorem dX9_mixPlans_25 : decode cX9_mixPlans 25 = .ok (.ldc2_w 294, 3) := by decide +kernel
theorem dX9_mixPlans_28 : decode cX9_mixPlans 28 = .ok (.lload 4, 2) := by decide +kernel
theorem dX9_mixPlans_30 : decode cX9_mixPlans 30 = .ok (.lmul, 1) := by decide +kernel
theorem dX9_mixPlans_31 : decode cX9_mixPlans 31 = .ok (.aload_n 0, 1) := by decide +kernel
theorem dX9_mixPlans_32 : decode cX9_mixPlans 32 = .ok (.getfield 76, 3) := by decide +kernel
theorem dX9_mixPlans_35 : decode cX9_mixPlans 35 = .ok (.getfield 177, 3) := by decide +kernel
theorem dX9_mixPlans_38 : decode cX9_mixPlans 38 = .ok (.i2l, 1) := by decide +kernel
theorem dX9_mixPlans_39 : decode cX9_mixPlans 39 = .ok (.ladd, 1) := by decide +kernel
theorem dX9_mixPlans_40 : decode cX9_mixPlans 40 = .ok (.lstore 4, 2) := by decide +kernel
theorem dX9_mixPlans_42 : decode cX9_mixPlans 42 = .ok (.aload_n 0, 1) := by decide +kernel
theorem dX9_mixPlans_43 : decode cX9_mixPlans 43 = .ok (.iload_n 3, 1) := by decide +kernel
theorem dX9_mixPlans_44 : decode cX9_mixPlans 44 = .ok (.invokevirtual 180, 3) := by decide +kernel
theorem dX9_mixPlans_47 : decode cX9_mixPlans 47 = .ok (.ldc2_w 294, 3) := by decide +kernel
theorem dX9_mixPlans_50 : decode cX9_mixPlans 50 = .ok (.lload 4, 2) := by decide +kernel
theorem dX9_mixPlans_52 : decode cX9_mixPlans 52 = .ok (.lmul, 1) := by decide +kernel
theorem dX9_mixPlans_53 : decode cX9_mixPlans 53 = .ok (.aload_n 0, 1) := by decide +kernel
theorem dX9_mixPlans_54 : decode cX9_mixPlans 54 = .ok (.getfield 76, 3) := by decide +kernel
theorem dX9_mixPlans_57 : decode cX9_mixPlans 57 = .ok (.getfield 174, 3) := by decide +kernel
theorem dX9_mixPlans_60 : decode cX9_mixPlans 60 = .ok (.i2l, 1) := by decide +kernel
theorem dX9_mixPlans_61 : decode cX9_mixPlans 61 = .ok (.ladd, 1) := by decide +kernel
theorem dX9_mixPlans_62 : decode cX9_mixPlans 62 = .ok (.lstore 4, 2) := by decide +kernel
theorem dX9_mixPlans_64 : decode cX9_mixPlans 64 = .ok (.ldc2_w 294, 3) := by decide +kernel
theorem dX9_mixPlans_67 : decode cX9_mixPlans 67 = .ok (.lload 4, 2) := by decide +kernel
theorem dX9_mixPlans_69 : decode cX9_mixPlans 69 = .ok (.lmul, 1) := by decide +kernel
theorem dX9_mixPlans_70 : decode cX9_mixPlans 70 = .ok (.aload_n 0, 1) := by decide +kernel
theorem dX9_mixPlans_71 : decode cX9_mixPlans 71 = .ok (.getfield 76, 3) := by decide +kernel
theorem dX9_mixPlans_74 : decode cX9_mixPlans 74 = .ok (.getfield 177, 3) := by decide +kernel
theorem dX9_mixPlans_77 : decode cX9_mixPlans 77 = .ok (.i2l, 1) := by decide +kernel
theorem dX9_mixPlans_78 : decode cX9_mixPlans 78 = .ok (.ladd, 1) := by decide +kernel
theorem dX9_mixPlans_79 : decode cX9_mixPlans 79 = .ok (.lstore 4, 2) := by decide +kernel
theorem dX9_mixPlans_81 : decode cX9_mixPlans 81 = .ok (.aload_n 0, 1) := by decide +kernel
theorem dX9_mixPlans_82 : decode cX9_mixPlans 82 = .ok (.getfield 31, 3) := by decide +kernel
theorem dX9_mixPlans_85 : decode cX9_mixPlans 85 = .ok (.getfield 224, 3) := by decide +kernel
theorem dX9_mixPlans_88 : decode cX9_mixPlans 88 = .ok (.ifCond .ne 30, 3) := by decide +kernel
theorem dX9_mixPlans_91 : decode cX9_mixPlans 91 = .ok (.ldc2_w 294, 3) := by decide +kernel
theorem dX9_mixPlans_94 : decode cX9_mixPlans 94 = .ok (.lload 4, 2) := by decide +kernel
theorem dX9_mixPlans_96 : decode cX9_mixPlans 96 = .ok (.lmul, 1) := by decide +kernel
theorem dX9_mixPlans_97 : decode cX9_mixPlans 97 = .ok (.ldc2_w 376, 3) := by decide +kernel
theorem dX9_mixPlans_100 : decode cX9_mixPlans 100 = .ok (.ladd, 1) := by decide +kernel
theorem dX9_mixPlans_101 : decode cX9_mixPlans 101 = .ok (.lstore 4, 2) := by decide +kernel
theorem dX9_mixPlans_103 : decode cX9_mixPlans 103 = .ok (.ldc2_w 294, 3) := by decide +kernel
theorem dX9_mixPlans_106 : decode cX9_mixPlans 106 = .ok (.lload 4, 2) := by decide +kernel
theorem dX9_mixPlans_108 : decode cX9_mixPlans 108 = .ok (.lmul, 1) := by decide +kernel
theorem dX9_mixPlans_109 : decode cX9_mixPlans 109 = .ok (.ldc2_w 376, 3) := by decide +kernel
theorem dX9_mixPlans_112 : decode cX9_mixPlans 112 = .ok (.ladd, 1) := by decide +kernel
theorem dX9_mixPlans_113 : decode cX9_mixPlans 113 = .ok (.lstore 4, 2) := by decide +kernel
theorem dX9_mixPlans_115 : decode cX9_mixPlans 115 = .ok (.goto 38, 3) := by decide +kernel
theorem dX9_mixPlans_118 : decode cX9_mixPlans 118 = .ok (.aload_n 0, 1) := by decide +kernel
theorem dX9_mixPlans_119 : decode cX9_mixPlans 119 = .ok (.iload_n 3, 1) := by decide +kernel
theorem dX9_mixPlans_120 : decode cX9_mixPlans 120 = .ok (.iconst 0, 1) := by decide +kernel
theorem dX9_mixPlans_121 : decode cX9_mixPlans 121 = .ok (.invokevirtual 183, 3) := by decide +kernel
theorem dX9_mixPlans_124 : decode cX9_mixPlans 124 = .ok (.istore 6, 2) := by decide +kernel
theorem dX9_mixPlans_126 : decode cX9_mixPlans 126 = .ok (.ldc2_w 294, 3) := by decide +kernel
theorem dX9_mixPlans_129 : decode cX9_mixPlans 129 = .ok (.lload 4, 2) := by decide +kernel
theorem dX9_mixPlans_131 : decode cX9_mixPlans 131 = .ok (.lmul, 1) := by decide +kernel
theorem dX9_mixPlans_132 : decode cX9_mixPlans 132 = .ok (.iload 6, 2) := by decide +kernel
theorem dX9_mixPlans_134 : decode cX9_mixPlans 134 = .ok (.invokestatic 186, 3) := by decide +kernel
theorem dX9_mixPlans_137 : decode cX9_mixPlans 137 = .ok (.i2l, 1) := by decide +kernel
theorem dX9_mixPlans_138 : decode cX9_mixPlans 138 = .ok (.ladd, 1) := by decide +kernel
theorem dX9_mixPlans_139 : decode cX9_mixPlans 139 = .ok (.lstore 4, 2) := by decide +kernel
theorem dX9_mixPlans_141 : decode cX9_mixPlans 141 = .ok (.ldc2_w 294, 3) := by decide +kernel
theorem dX9_mixPlans_144 : decode cX9_mixPlans 144 = .ok (.lload 4, 2) := by decide +kernel
theorem dX9_mixPlans_146 : decode cX9_mixPlans 146 = .ok (.lmul, 1) := by decide +kernel
theorem dX9_mixPlans_147 : decode cX9_mixPlans 147 = .ok (.iload 6, 2) := by decide +kernel
theorem dX9_mixPlans_149 : decode cX9_mixPlans 149 = .ok (.i2l, 1) := by decide +kernel
theorem dX9_mixPlans_150 : decode cX9_mixPlans 150 = .ok (.ladd, 1) := by decide +kernel
theorem dX9_mixPlans_151 : decode cX9_mixPlans 151 = .ok (.lstore 4, 2) := by decide +kernel
theorem dX9_mixPlans_153 : decode cX9_mixPlans 153 = .ok (.ldc2_w 294, 3) := by decide +kernel
theorem dX9_mixPlans_156 : decode cX9_mixPlans 156 = .ok (.lload 4, 2) := by decide +kernel
theorem dX9_mixPlans_158 : decode cX9_mixPlans 158 = .ok (.lmul, 1) := by decide +kernel
theorem dX9_mixPlans_159 : decode cX9_mixPlans 159 = .ok (.aload_n 0, 1) := by decide +kernel
theorem dX9_mixPlans_160 : decode cX9_mixPlans 160 = .ok (.iload_n 3, 1) := by decide +kernel
theorem dX9_mixPlans_161 : decode cX9_mixPlans 161 = .ok (.iconst 0, 1) := by decide +kernel
theorem dX9_mixPlans_162 : decode cX9_mixPlans 162 = .ok (.invokevirtual 378, 3) := by decide +kernel
theorem dX9_mixPlans_165 : decode cX9_mixPlans 165 = .ok (.i2l, 1) := by decide +kernel
theorem dX9_mixPlans_166 : decode cX9_mixPlans 166 = .ok (.ladd, 1) := by decide +kernel
theorem dX9_mixPlans_167 : decode cX9_mixPlans 167 = .ok (.lreturn, 1) := by decide +kernel
theorem dX9_mixRoads_0 : decode cX9_mixRoads 0 = .ok (.lload_n 1, 1) := by decide +kernel
theorem dX9_mixRoads_1 : decode cX9_mixRoads 1 = .ok (.lstore 4, 2) := by decide +kernel
theorem dX9_mixRoads_3 : decode cX9_mixRoads 3 = .ok (.ldc2_w 294, 3) := by decide +kernel
theorem dX9_mixRoads_6 : decode cX9_mixRoads 6 = .ok (.lload 4, 2) := by decide +kernel
theorem dX9_mixRoads_8 : decode cX9_mixRoads 8 = .ok (.lmul, 1) := by decide +kernel
theorem dX9_mixRoads_9 : decode cX9_mixRoads 9 = .ok (.aload_n 0, 1) := by decide +kernel
theorem dX9_mixRoads_10 : decode cX9_mixRoads 10 = .ok (.iconst 5, 1) := by decide +kernel
theorem dX9_mixRoads_11 : decode cX9_mixRoads 11 = .ok (.iload_n 3, 1) := by decide +kernel
theorem dX9_mixRoads_12 : decode cX9_mixRoads 12 = .ok (.bipush 9, 2) := by decide +kernel
theorem dX9_mixRoads_14 : decode cX9_mixRoads 14 = .ok (.iconst 0, 1) := by decide +kernel
theorem dX9_mixRoads_15 : decode cX9_mixRoads 15 = .ok (.invokevirtual 381, 3) := by decide +kernel
theorem dX9_mixRoads_18 : decode cX9_mixRoads 18 = .ok (.ladd, 1) := by decide +kernel
theorem dX9_mixRoads_19 : decode cX9_mixRoads 19 = .ok (.lstore 4, 2) := by decide +kernel
theorem dX9_mixRoads_21 : decode cX9_mixRoads 21 = .ok (.ldc2_w 294, 3) := by decide +kernel
theorem dX9_mixRoads_24 : decode cX9_mixRoads 24 = .ok (.lload 4, 2) := by decide +kernel
theorem dX9_mixRoads_26 : decode cX9_mixRoads 26 = .ok (.lmul, 1) := by decide +kernel
theorem dX9_mixRoads_27 : decode cX9_mixRoads 27 = .ok (.aload_n 0, 1) := by decide +kernel
theorem dX9_mixRoads_28 : decode cX9_mixRoads 28 = .ok (.iconst 5, 1) := by decide +kernel
theorem dX9_mixRoads_29 : decode cX9_mixRoads 29 = .ok (.iload_n 3, 1) := by decide +kernel
theorem dX9_mixRoads_30 : decode cX9_mixRoads 30 = .ok (.bipush 9, 2) := by decide +kernel
theorem dX9_mixRoads_32 : decode cX9_mixRoads 32 = .ok (.iconst 1, 1) := by decide +kernel
theorem dX9_mixRoads_33 : decode cX9_mixRoads 33 = .ok (.invokevirtual 381, 3) := by decide +kernel
theorem dX9_mixRoads_36 : decode cX9_mixRoads 36 = .ok (.ladd, 1) := by decide +kernel
theorem dX9_mixRoads_37 : decode cX9_mixRoads 37 = .ok (.lstore 4, 2) := by decide +kernel
theorem dX9_mixRoads_39 : decode cX9_mixRoads 39 = .ok (.ldc2_w 294, 3) := by decide +kernel
theorem dX9_mixRoads_42 : decode cX9_mixRoads 42 = .ok (.lload 4, 2) := by decide +kernel
theorem dX9_mixRoads_44 : decode cX9_mixRoads 44 = .ok (.lmul, 1) := by decide +kernel
theorem dX9_mixRoads_45 : decode cX9_mixRoads 45 = .ok (.aload_n 0, 1) := by decide +kernel
theorem dX9_mixRoads_46 : decode cX9_mixRoads 46 = .ok (.bipush 7, 2) := by decide +kernel
theorem dX9_mixRoads_48 : decode cX9_mixRoads 48 = .ok (.bipush 30, 2) := by decide +kernel
theorem dX9_mixRoads_50 : decode cX9_mixRoads 50 = .ok (.iload_n 3, 1) := by decide +kernel
theorem dX9_mixRoads_51 : decode cX9_mixRoads 51 = .ok (.iconst 0, 1) := by decide +kernel
theorem dX9_mixRoads_52 : decode cX9_mixRoads 52 = .ok (.invokevirtual 385, 3) := by decide +kernel
theorem dX9_mixRoads_55 : decode cX9_mixRoads 55 = .ok (.i2l, 1) := by decide +kernel
theorem dX9_mixRoads_56 : decode cX9_mixRoads 56 = .ok (.ladd, 1) := by decide +kernel
theorem dX9_mixRoads_57 : decode cX9_mixRoads 57 = .ok (.lstore 4, 2) := by decide +kernel
theorem dX9_mixRoads_59 : decode cX9_mixRoads 59 = .ok (.ldc2_w 294, 3) := by decide +kernel
theorem dX9_mixRoads_62 : decode cX9_mixRoads 62 = .ok (.lload 4, 2) := by decide +kernel
theorem dX9_mixRoads_64 : decode cX9_mixRoads 64 = .ok (.lmul, 1) := by decide +kernel
theorem dX9_mixRoads_65 : decode cX9_mixRoads 65 = .ok (.aload_n 0, 1) := by decide +kernel
theorem dX9_mixRoads_66 : decode cX9_mixRoads 66 = .ok (.bipush 7, 2) := by decide +kernel
theorem dX9_mixRoads_68 : decode cX9_mixRoads 68 = .ok (.bipush 30, 2) := by decide +kernel
theorem dX9_mixRoads_70 : decode cX9_mixRoads 70 = .ok (.iload_n 3, 1) := by decide +kernel
theorem dX9_mixRoads_71 : decode cX9_mixRoads 71 = .ok (.iconst 1, 1) := by decide +kernel
theorem dX9_mixRoads_72 : decode cX9_mixRoads 72 = .ok (.invokevirtual 385, 3) := by decide +kernel
theorem dX9_mixRoads_75 : decode cX9_mixRoads 75 = .ok (.i2l, 1) := by decide +kernel
theorem dX9_mixRoads_76 : decode cX9_mixRoads 76 = .ok (.ladd, 1) := by decide +kernel
theorem dX9_mixRoads_77 : decode cX9_mixRoads 77 = .ok (.lreturn, 1) := by decide +kernel
theorem dX9_mixGuest_0 : decode cX9_mixGuest 0 = .ok (.lload_n 1, 1) := by decide +kernel
theorem dX9_mixGuest_1 : decode cX9_mixGuest 1 = .ok (.lstore 4, 2) := by decide +kernel
theorem dX9_mixGuest_3 : decode cX9_mixGuest 3 = .ok (.iconst 0, 1) := by decide +kernel
theorem dX9_mixGuest_4 : decode cX9_mixGuest 4 = .ok (.istore 6, 2) := by decide +kernel
theorem dX9_mixGuest_6 : decode cX9_mixGuest 6 = .ok (.iload 6, 2) := by decide +kernel
theorem dX9_mixGuest_8 : decode cX9_mixGuest 8 = .ok (.iconst 3, 1) := by decide +kernel
theorem dX9_mixGuest_9 : decode cX9_mixGuest 9 = .ok (.if_icmp .gt 26, 3) := by decide +kernel
theorem dX9_mixGuest_12 : decode cX9_mixGuest 12 = .ok (.ldc2_w 294, 3) := by decide +kernel
theorem dX9_mixGuest_15 : decode cX9_mixGuest 15 = .ok (.lload 4, 2) := by decide +kernel
theorem dX9_mixGuest_17 : decode cX9_mixGuest 17 = .ok (.lmul, 1) := by decide +kernel
theorem dX9_mixGuest_18 : decode cX9_mixGuest 18 = .ok (.aload_n 0, 1) := by decide +kernel
theorem dX9_mixGuest_19 : decode cX9_mixGuest 19 = .ok (.iload_n 3, 1) := by decide +kernel
theorem dX9_mixGuest_20 : decode cX9_mixGuest 20 = .ok (.iload 6, 2) := by decide +kernel
theorem dX9_mixGuest_22 : decode cX9_mixGuest 22 = .ok (.invokevirtual 389, 3) := by decide +kernel
theorem dX9_mixGuest_25 : decode cX9_mixGuest 25 = .ok (.i2l, 1) := by decide +kernel
theorem dX9_mixGuest_26 : decode cX9_mixGuest 26 = .ok (.ladd, 1) := by decide +kernel
theorem dX9_mixGuest_27 : decode cX9_mixGuest 27 = .ok (.lstore 4, 2) := by decide +kernel
theorem dX9_mixGuest_29 : decode cX9_mixGuest 29 = .ok (.iinc 6 1, 3) := by decide +kernel
theorem dX9_mixGuest_32 : decode cX9_mixGuest 32 = .ok (.goto (-26), 3) := by decide +kernel
theorem dX9_mixGuest_35 : decode cX9_mixGuest 35 = .ok (.iconst 0, 1) := by decide +kernel
theorem dX9_mixGuest_36 : decode cX9_mixGuest 36 = .ok (.istore 6, 2) := by decide +kernel
theorem dX9_mixGuest_38 : decode cX9_mixGuest 38 = .ok (.iload 6, 2) := by decide +kernel
theorem dX9_mixGuest_40 : decode cX9_mixGuest 40 = .ok (.iconst 3, 1) := by decide +kernel
theorem dX9_mixGuest_41 : decode cX9_mixGuest 41 = .ok (.if_icmp .gt 26, 3) := by decide +kernel
theorem dX9_mixGuest_44 : decode cX9_mixGuest 44 = .ok (.ldc2_w 294, 3) := by decide +kernel
theorem dX9_mixGuest_47 : decode cX9_mixGuest 47 = .ok (.lload 4, 2) := by decide +kernel
theorem dX9_mixGuest_49 : decode cX9_mixGuest 49 = .ok (.lmul, 1) := by decide +kernel
theorem dX9_mixGuest_50 : decode cX9_mixGuest 50 = .ok (.aload_n 0, 1) := by decide +kernel
theorem dX9_mixGuest_51 : decode cX9_mixGuest 51 = .ok (.iload_n 3, 1) := by decide +kernel
theorem dX9_mixGuest_52 : decode cX9_mixGuest 52 = .ok (.iload 6, 2) := by decide +kernel
theorem dX9_mixGuest_54 : decode cX9_mixGuest 54 = .ok (.invokevirtual 392, 3) := by decide +kernel
theorem dX9_mixGuest_57 : decode cX9_mixGuest 57 = .ok (.i2l, 1) := by decide +kernel
theorem dX9_mixGuest_58 : decode cX9_mixGuest 58 = .ok (.ladd, 1) := by decide +kernel
theorem dX9_mixGuest_59 : decode cX9_mixGuest 59 = .ok (.lstore 4, 2) := by decide +kernel
theorem dX9_mixGuest_61 : decode cX9_mixGuest 61 = .ok (.iinc 6 1, 3) := by decide +kernel
theorem dX9_mixGuest_64 : decode cX9_mixGuest 64 = .ok (.goto (-26), 3) := by decide +kernel
theorem dX9_mixGuest_67 : decode cX9_mixGuest 67 = .ok (.ldc2_w 294, 3) := by decide +kernel
theorem dX9_mixGuest_70 : decode cX9_mixGuest 70 = .ok (.lload 4, 2) := by decide +kernel
theorem dX9_mixGuest_72 : decode cX9_mixGuest 72 = .ok (.lmul, 1) := by decide +kernel
theorem dX9_mixGuest_73 : decode cX9_mixGuest 73 = .ok (.aload_n 0, 1) := by decide +kernel
theorem dX9_mixGuest_74 : decode cX9_mixGuest 74 = .ok (.iload_n 3, 1) := by decide +kernel
theorem dX9_mixGuest_75 : decode cX9_mixGuest 75 = .ok (.invokevirtual 395, 3) := by decide +kernel
theorem dX9_mixGuest_78 : decode cX9_mixGuest 78 = .ok (.i2l, 1) := by decide +kernel
theorem dX9_mixGuest_79 : decode cX9_mixGuest 79 = .ok (.ladd, 1) := by decide +kernel
theorem dX9_mixGuest_80 : decode cX9_mixGuest 80 = .ok (.lstore 4, 2) := by decide +kernel
theorem dX9_mixGuest_82 : decode cX9_mixGuest 82 = .ok (.iconst 0, 1) := by decide +kernel
theorem dX9_mixGuest_83 : decode cX9_mixGuest 83 = .ok (.istore 6, 2) := by decide +kernel
theorem dX9_mixGuest_85 : decode cX9_mixGuest 85 = .ok (.iload 6, 2) := by decide +kernel
theorem dX9_mixGuest_87 : decode cX9_mixGuest 87 = .ok (.aload_n 0, 1) := by decide +kernel
theorem dX9_mixGuest_88 : decode cX9_mixGuest 88 = .ok (.getfield 24, 3) := by decide +kernel
theorem dX9_mixGuest_91 : decode cX9_mixGuest 91 = .ok (.getfield 139, 3) := by decide +kernel
theorem dX9_mixGuest_94 : decode cX9_mixGuest 94 = .ok (.if_icmp .ge 26, 3) := by decide +kernel
theorem dX9_mixGuest_97 : decode cX9_mixGuest 97 = .ok (.ldc2_w 294, 3) := by decide +kernel
theorem dX9_mixGuest_100 : decode cX9_mixGuest 100 = .ok (.lload 4, 2) := by decide +kernel
theorem dX9_mixGuest_102 : decode cX9_mixGuest 102 = .ok (.lmul, 1) := by decide +kernel
theorem dX9_mixGuest_103 : decode cX9_mixGuest 103 = .ok (.aload_n 0, 1) := by decide +kernel
theorem dX9_mixGuest_104 : decode cX9_mixGuest 104 = .ok (.iload_n 3, 1) := by decide +kernel
theorem dX9_mixGuest_105 : decode cX9_mixGuest 105 = .ok (.iload 6, 2) := by decide +kernel
theorem dX9_mixGuest_107 : decode cX9_mixGuest 107 = .ok (.invokevirtual 398, 3) := by decide +kernel
theorem dX9_mixGuest_110 : decode cX9_mixGuest 110 = .ok (.i2l, 1) := by decide +kernel
theorem dX9_mixGuest_111 : decode cX9_mixGuest 111 = .ok (.ladd, 1) := by decide +kernel
theorem dX9_mixGuest_112 : decode cX9_mixGuest 112 = .ok (.lstore 4, 2) := by decide +kernel
theorem dX9_mixGuest_114 : decode cX9_mixGuest 114 = .ok (.iinc 6 1, 3) := by decide +kernel
theorem dX9_mixGuest_117 : decode cX9_mixGuest 117 = .ok (.goto (-32), 3) := by decide +kernel
theorem dX9_mixGuest_120 : decode cX9_mixGuest 120 = .ok (.lload 4, 2) := by decide +kernel
theorem dX9_mixGuest_122 : decode cX9_mixGuest 122 = .ok (.lreturn, 1) := by decide +kernel
