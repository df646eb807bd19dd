theorem dX9_teach_37 : decode cX9_teach 37 = .ok (.lastore, 1) := by decide +kernel
theorem dX9_teach_38 : decode cX9_teach 38 = .ok (.iload_n 2, 1) := by decide +kernel
theorem dX9_teach_39 : decode cX9_teach 39 = .ok (.ireturn, 1) := by decide +kernel
theorem dX9_drawn_0 : decode cX9_drawn 0 = .ok (.aload_n 0, 1) := by decide +kernel
theorem dX9_drawn_1 : decode cX9_drawn 1 = .ok (.aload_n 0, 1) := by decide +kernel
theorem dX9_drawn_2 : decode cX9_drawn 2 = .ok (.getfield 241, 3) := by decide +kernel
theorem dX9_drawn_5 : decode cX9_drawn 5 = .ok (.ldc2_w 245, 3) := by decide +kernel
theorem dX9_drawn_8 : decode cX9_drawn 8 = .ok (.lmul, 1) := by decide +kernel
theorem dX9_drawn_9 : decode cX9_drawn 9 = .ok (.ldc2_w 247, 3) := by decide +kernel
theorem dX9_drawn_12 : decode cX9_drawn 12 = .ok (.ladd, 1) := by decide +kernel
theorem dX9_drawn_13 : decode cX9_drawn 13 = .ok (.ldc2_w 249, 3) := by decide +kernel
theorem dX9_drawn_16 : decode cX9_drawn 16 = .ok (.land, 1) := by decide +kernel
theorem dX9_drawn_17 : decode cX9_drawn 17 = .ok (.putfield 241, 3) := by decide +kernel
theorem dX9_drawn_20 : decode cX9_drawn 20 = .ok (.aload_n 0, 1) := by decide +kernel
theorem dX9_drawn_21 : decode cX9_drawn 21 = .ok (.getfield 241, 3) := by decide +kernel
theorem dX9_drawn_24 : decode cX9_drawn 24 = .ok (.ldc2_w 251, 3) := by decide +kernel
theorem dX9_drawn_27 : decode cX9_drawn 27 = .ok (.ldiv, 1) := by decide +kernel
theorem dX9_drawn_28 : decode cX9_drawn 28 = .ok (.iload_n 1, 1) := by decide +kernel
theorem dX9_drawn_29 : decode cX9_drawn 29 = .ok (.i2l, 1) := by decide +kernel
theorem dX9_drawn_30 : decode cX9_drawn 30 = .ok (.lrem, 1) := by decide +kernel
theorem dX9_drawn_31 : decode cX9_drawn 31 = .ok (.l2i, 1) := by decide +kernel
theorem dX9_drawn_32 : decode cX9_drawn 32 = .ok (.ireturn, 1) := by decide +kernel
theorem dX9_stirs_0 : decode cX9_stirs 0 = .ok (.aload_n 0, 1) := by decide +kernel
theorem dX9_stirs_1 : decode cX9_stirs 1 = .ok (.aload_n 0, 1) := by decide +kernel
theorem dX9_stirs_2 : decode cX9_stirs 2 = .ok (.getfield 64, 3) := by decide +kernel
theorem dX9_stirs_5 : decode cX9_stirs 5 = .ok (.invokevirtual 253, 3) := by decide +kernel
theorem dX9_stirs_8 : decode cX9_stirs 8 = .ok (.istore_n 1, 1) := by decide +kernel
theorem dX9_stirs_9 : decode cX9_stirs 9 = .ok (.aload_n 0, 1) := by decide +kernel
theorem dX9_stirs_10 : decode cX9_stirs 10 = .ok (.iconst 5, 1) := by decide +kernel
theorem dX9_stirs_11 : decode cX9_stirs 11 = .ok (.invokevirtual 253, 3) := by decide +kernel
theorem dX9_stirs_14 : decode cX9_stirs 14 = .ok (.istore_n 2, 1) := by decide +kernel
theorem dX9_stirs_15 : decode cX9_stirs 15 = .ok (.lconst 1, 1) := by decide +kernel
theorem dX9_stirs_16 : decode cX9_stirs 16 = .ok (.iload_n 1, 1) := by decide +kernel
theorem dX9_stirs_17 : decode cX9_stirs 17 = .ok (.lshl, 1) := by decide +kernel
theorem dX9_stirs_18 : decode cX9_stirs 18 = .ok (.lstore_n 3, 1) := by decide +kernel
theorem dX9_stirs_19 : decode cX9_stirs 19 = .ok (.iload_n 2, 1) := by decide +kernel
theorem dX9_stirs_20 : decode cX9_stirs 20 = .ok (.iconst 2, 1) := by decide +kernel
theorem dX9_stirs_21 : decode cX9_stirs 21 = .ok (.if_icmp .ne 22, 3) := by decide +kernel
theorem dX9_stirs_24 : decode cX9_stirs 24 = .ok (.aload_n 0, 1) := by decide +kernel
theorem dX9_stirs_25 : decode cX9_stirs 25 = .ok (.getfield 19, 3) := by decide +kernel
theorem dX9_stirs_28 : decode cX9_stirs 28 = .ok (.bipush 10, 2) := by decide +kernel
theorem dX9_stirs_30 : decode cX9_stirs 30 = .ok (.iload_n 1, 1) := by decide +kernel
theorem dX9_stirs_31 : decode cX9_stirs 31 = .ok (.iadd, 1) := by decide +kernel
theorem dX9_stirs_32 : decode cX9_stirs 32 = .ok (.aload_n 0, 1) := by decide +kernel
theorem dX9_stirs_33 : decode cX9_stirs 33 = .ok (.bipush 10, 2) := by decide +kernel
theorem dX9_stirs_35 : decode cX9_stirs 35 = .ok (.invokevirtual 253, 3) := by decide +kernel
theorem dX9_stirs_38 : decode cX9_stirs 38 = .ok (.i2l, 1) := by decide +kernel
theorem dX9_stirs_39 : decode cX9_stirs 39 = .ok (.lastore, 1) := by decide +kernel
theorem dX9_stirs_40 : decode cX9_stirs 40 = .ok (.goto 78, 3) := by decide +kernel
theorem dX9_stirs_43 : decode cX9_stirs 43 = .ok (.iload_n 2, 1) := by decide +kernel
theorem dX9_stirs_44 : decode cX9_stirs 44 = .ok (.iconst 2, 1) := by decide +kernel
theorem dX9_stirs_45 : decode cX9_stirs 45 = .ok (.if_icmp .ge 39, 3) := by decide +kernel
theorem dX9_stirs_48 : decode cX9_stirs 48 = .ok (.aload_n 0, 1) := by decide +kernel
theorem dX9_stirs_49 : decode cX9_stirs 49 = .ok (.getfield 19, 3) := by decide +kernel
theorem dX9_stirs_52 : decode cX9_stirs 52 = .ok (.iconst 4, 1) := by decide +kernel
theorem dX9_stirs_53 : decode cX9_stirs 53 = .ok (.iload_n 2, 1) := by decide +kernel
theorem dX9_stirs_54 : decode cX9_stirs 54 = .ok (.ifCond .ne 14, 3) := by decide +kernel
theorem dX9_stirs_57 : decode cX9_stirs 57 = .ok (.aload_n 0, 1) := by decide +kernel
theorem dX9_stirs_58 : decode cX9_stirs 58 = .ok (.getfield 19, 3) := by decide +kernel
theorem dX9_stirs_61 : decode cX9_stirs 61 = .ok (.iconst 4, 1) := by decide +kernel
theorem dX9_stirs_62 : decode cX9_stirs 62 = .ok (.laload, 1) := by decide +kernel
theorem dX9_stirs_63 : decode cX9_stirs 63 = .ok (.lload_n 3, 1) := by decide +kernel
theorem dX9_stirs_64 : decode cX9_stirs 64 = .ok (.lor, 1) := by decide +kernel
theorem dX9_stirs_65 : decode cX9_stirs 65 = .ok (.goto 15, 3) := by decide +kernel
theorem dX9_stirs_68 : decode cX9_stirs 68 = .ok (.aload_n 0, 1) := by decide +kernel
theorem dX9_stirs_69 : decode cX9_stirs 69 = .ok (.getfield 19, 3) := by decide +kernel
theorem dX9_stirs_72 : decode cX9_stirs 72 = .ok (.iconst 4, 1) := by decide +kernel
theorem dX9_stirs_73 : decode cX9_stirs 73 = .ok (.laload, 1) := by decide +kernel
theorem dX9_stirs_74 : decode cX9_stirs 74 = .ok (.lload_n 3, 1) := by decide +kernel
theorem dX9_stirs_75 : decode cX9_stirs 75 = .ok (.ldc2_w 229, 3) := by decide +kernel
theorem dX9_stirs_78 : decode cX9_stirs 78 = .ok (.lxor, 1) := by decide +kernel
theorem dX9_stirs_79 : decode cX9_stirs 79 = .ok (.land, 1) := by decide +kernel
theorem dX9_stirs_80 : decode cX9_stirs 80 = .ok (.lastore, 1) := by decide +kernel
theorem dX9_stirs_81 : decode cX9_stirs 81 = .ok (.goto 37, 3) := by decide +kernel
theorem dX9_stirs_84 : decode cX9_stirs 84 = .ok (.aload_n 0, 1) := by decide +kernel
theorem dX9_stirs_85 : decode cX9_stirs 85 = .ok (.getfield 19, 3) := by decide +kernel
theorem dX9_stirs_88 : decode cX9_stirs 88 = .ok (.iconst 5, 1) := by decide +kernel
theorem dX9_stirs_89 : decode cX9_stirs 89 = .ok (.iload_n 2, 1) := by decide +kernel
theorem dX9_stirs_90 : decode cX9_stirs 90 = .ok (.iconst 3, 1) := by decide +kernel
theorem dX9_stirs_91 : decode cX9_stirs 91 = .ok (.if_icmp .ne 14, 3) := by decide +kernel
theorem dX9_stirs_94 : decode cX9_stirs 94 = .ok (.aload_n 0, 1) := by decide +kernel
theorem dX9_stirs_95 : decode cX9_stirs 95 = .ok (.getfield 19, 3) := by decide +kernel
theorem dX9_stirs_98 : decode cX9_stirs 98 = .ok (.iconst 5, 1) := by decide +kernel
theorem dX9_stirs_99 : decode cX9_stirs 99 = .ok (.laload, 1) := by decide +kernel
theorem dX9_stirs_100 : decode cX9_stirs 100 = .ok (.lload_n 3, 1) := by decide +kernel
theorem dX9_stirs_101 : decode cX9_stirs 101 = .ok (.lor, 1) := by decide +kernel
theorem dX9_stirs_102 : decode cX9_stirs 102 = .ok (.goto 15, 3) := by decide +kernel
theorem dX9_stirs_105 : decode cX9_stirs 105 = .ok (.aload_n 0, 1) := by decide +kernel
theorem dX9_stirs_106 : decode cX9_stirs 106 = .ok (.getfield 19, 3) := by decide +kernel
theorem dX9_stirs_109 : decode cX9_stirs 109 = .ok (.iconst 5, 1) := by decide +kernel
theorem dX9_stirs_110 : decode cX9_stirs 110 = .ok (.laload, 1) := by decide +kernel
theorem dX9_stirs_111 : decode cX9_stirs 111 = .ok (.lload_n 3, 1) := by decide +kernel
theorem dX9_stirs_112 : decode cX9_stirs 112 = .ok (.ldc2_w 229, 3) := by decide +kernel
theorem dX9_stirs_115 : decode cX9_stirs 115 = .ok (.lxor, 1) := by decide +kernel
theorem dX9_stirs_116 : decode cX9_stirs 116 = .ok (.land, 1) := by decide +kernel
theorem dX9_stirs_117 : decode cX9_stirs 117 = .ok (.lastore, 1) := by decide +kernel
theorem dX9_stirs_118 : decode cX9_stirs 118 = .ok (.return_, 1) := by decide +kernel
theorem dX9_drift_0 : decode cX9_drift 0 = .ok (.iload_n 1, 1) := by decide +kernel
theorem dX9_drift_1 : decode cX9_drift 1 = .ok (.i2l, 1) := by decide +kernel
theorem dX9_drift_2 : decode cX9_drift 2 = .ok (.lconst 1, 1) := by decide +kernel
theorem dX9_drift_3 : decode cX9_drift 3 = .ok (.ldc2_w 218, 3) := by decide +kernel
theorem dX9_drift_6 : decode cX9_drift 6 = .ok (.invokestatic 67, 3) := by decide +kernel
theorem dX9_drift_9 : decode cX9_drift 9 = .ok (.ifCond .ne 6, 3) := by decide +kernel
theorem dX9_drift_12 : decode cX9_drift 12 = .ok (.ldc 142, 2) := by decide +kernel
theorem dX9_drift_14 : decode cX9_drift 14 = .ok (.ireturn, 1) := by decide +kernel
theorem dX9_drift_15 : decode cX9_drift 15 = .ok (.aload_n 0, 1) := by decide +kernel
theorem dX9_drift_16 : decode cX9_drift 16 = .ok (.getfield 64, 3) := by decide +kernel
theorem dX9_drift_19 : decode cX9_drift 19 = .ok (.ifCond .ne 6, 3) := by decide +kernel
theorem dX9_drift_22 : decode cX9_drift 22 = .ok (.ldc 220, 2) := by decide +kernel
theorem dX9_drift_24 : decode cX9_drift 24 = .ok (.ireturn, 1) := by decide +kernel
theorem dX9_drift_25 : decode cX9_drift 25 = .ok (.aload_n 0, 1) := by decide +kernel
theorem dX9_drift_26 : decode cX9_drift 26 = .ok (.getfield 19, 3) := by decide +kernel
theorem dX9_drift_29 : decode cX9_drift 29 = .ok (.iconst 1, 1) := by decide +kernel
theorem dX9_drift_30 : decode cX9_drift 30 = .ok (.laload, 1) := by decide +kernel
theorem dX9_drift_31 : decode cX9_drift 31 = .ok (.ldc2_w 221, 3) := by decide +kernel
theorem dX9_drift_34 : decode cX9_drift 34 = .ok (.lcmp, 1) := by decide +kernel
theorem dX9_drift_35 : decode cX9_drift 35 = .ok (.ifCond .le 6, 3) := by decide +kernel
theorem dX9_drift_38 : decode cX9_drift 38 = .ok (.ldc 146, 2) := by decide +kernel
theorem dX9_drift_40 : decode cX9_drift 40 = .ok (.ireturn, 1) := by decide +kernel
theorem dX9_drift_41 : decode cX9_drift 41 = .ok (.aload_n 0, 1) := by decide +kernel
theorem dX9_drift_42 : decode cX9_drift 42 = .ok (.invokevirtual 223, 3) := by decide +kernel
theorem dX9_drift_45 : decode cX9_drift 45 = .ok (.iconst 0, 1) := by decide +kernel
theorem dX9_drift_46 : decode cX9_drift 46 = .ok (.istore_n 2, 1) := by decide +kernel
theorem dX9_drift_47 : decode cX9_drift 47 = .ok (.iload_n 2, 1) := by decide +kernel
theorem dX9_drift_48 : decode cX9_drift 48 = .ok (.iload_n 1, 1) := by decide +kernel
theorem dX9_drift_49 : decode cX9_drift 49 = .ok (.if_icmp .ge 17, 3) := by decide +kernel
theorem dX9_drift_52 : decode cX9_drift 52 = .ok (.aload_n 0, 1) := by decide +kernel
theorem dX9_drift_53 : decode cX9_drift 53 = .ok (.invokevirtual 256, 3) := by decide +kernel
theorem dX9_drift_56 : decode cX9_drift 56 = .ok (.aload_n 0, 1) := by decide +kernel
theorem dX9_drift_57 : decode cX9_drift 57 = .ok (.invokevirtual 137, 3) := by decide +kernel
theorem dX9_drift_60 : decode cX9_drift 60 = .ok (.iinc 2 1, 3) := by decide +kernel
theorem dX9_drift_63 : decode cX9_drift 63 = .ok (.goto (-16), 3) := by decide +kernel
theorem dX9_drift_66 : decode cX9_drift 66 = .ok (.aload_n 0, 1) := by decide +kernel
theorem dX9_drift_67 : decode cX9_drift 67 = .ok (.iconst 2, 1) := by decide +kernel
theorem dX9_drift_68 : decode cX9_drift 68 = .ok (.invokevirtual 97, 3) := by decide +kernel
theorem dX9_drift_71 : decode cX9_drift 71 = .ok (.ireturn, 1) := by decide +kernel
theorem dX9_undo_0 : decode cX9_undo 0 = .ok (.aload_n 0, 1) := by decide +kernel
theorem dX9_undo_1 : decode cX9_undo 1 = .ok (.getfield 193, 3) := by decide +kernel
theorem dX9_undo_4 : decode cX9_undo 4 = .ok (.ifCond .ne 6, 3) := by decide +kernel
theorem dX9_undo_7 : decode cX9_undo 7 = .ok (.ldc 220, 2) := by decide +kernel
theorem dX9_undo_9 : decode cX9_undo 9 = .ok (.ireturn, 1) := by decide +kernel
theorem dX9_undo_10 : decode cX9_undo 10 = .ok (.aload_n 0, 1) := by decide +kernel
theorem dX9_undo_11 : decode cX9_undo 11 = .ok (.dup, 1) := by decide +kernel
theorem dX9_undo_12 : decode cX9_undo 12 = .ok (.getfield 193, 3) := by decide +kernel
theorem dX9_undo_15 : decode cX9_undo 15 = .ok (.iconst 1, 1) := by decide +kernel
theorem dX9_undo_16 : decode cX9_undo 16 = .ok (.isub, 1) := by decide +kernel
theorem dX9_undo_17 : decode cX9_undo 17 = .ok (.putfield 193, 3) := by decide +kernel
theorem dX9_undo_20 : decode cX9_undo 20 = .ok (.iconst 0, 1) := by decide +kernel
theorem dX9_undo_21 : decode cX9_undo 21 = .ok (.istore_n 1, 1) := by decide +kernel
theorem dX9_undo_22 : decode cX9_undo 22 = .ok (.iload_n 1, 1) := by decide +kernel
theorem dX9_undo_23 : decode cX9_undo 23 = .ok (.bipush 80, 2) := by decide +kernel
theorem dX9_undo_25 : decode cX9_undo 25 = .ok (.if_icmp .ge 29, 3) := by decide +kernel
theorem dX9_undo_28 : decode cX9_undo 28 = .ok (.aload_n 0, 1) := by decide +kernel
theorem dX9_undo_29 : decode cX9_undo 29 = .ok (.getfield 19, 3) := by decide +kernel
theorem dX9_undo_32 : decode cX9_undo 32 = .ok (.iload_n 1, 1) := by decide +kernel
theorem dX9_undo_33 : decode cX9_undo 33 = .ok (.aload_n 0, 1) := by decide +kernel
theorem dX9_undo_34 : decode cX9_undo 34 = .ok (.getfield 29, 3) := by decide +kernel
theorem dX9_undo_37 : decode cX9_undo 37 = .ok (.bipush 80, 2) := by decide +kernel
theorem dX9_undo_39 : decode cX9_undo 39 = .ok (.aload_n 0, 1) := by decide +kernel
theorem dX9_undo_40 : decode cX9_undo 40 = .ok (.getfield 193, 3) := by decide +kernel
theorem dX9_undo_43 : decode cX9_undo 43 = .ok (.imul, 1) := by decide +kernel
theorem dX9_undo_44 : decode cX9_undo 44 = .ok (.iload_n 1, 1) := by decide +kernel
theorem dX9_undo_45 : decode cX9_undo 45 = .ok (.iadd, 1) := by decide +kernel
theorem dX9_undo_46 : decode cX9_undo 46 = .ok (.laload, 1) := by decide +kernel
theorem dX9_undo_47 : decode cX9_undo 47 = .ok (.lastore, 1) := by decide +kernel
theorem dX9_undo_48 : decode cX9_undo 48 = .ok (.iinc 1 1, 3) := by decide +kernel
theorem dX9_undo_51 : decode cX9_undo 51 = .ok (.goto (-29), 3) := by decide +kernel
theorem dX9_undo_54 : decode cX9_undo 54 = .ok (.aload_n 0, 1) := by decide +kernel
theorem dX9_undo_55 : decode cX9_undo 55 = .ok (.getfield 193, 3) := by decide +kernel
theorem dX9_undo_58 : decode cX9_undo 58 = .ok (.ireturn, 1) := by decide +kernel
theorem dX9_asides_0 : decode cX9_asides 0 = .ok (.iconst 0, 1) := by decide +kernel
theorem dX9_asides_1 : decode cX9_asides 1 = .ok (.istore_n 1, 1) := by decide +kernel
theorem dX9_asides_2 : decode cX9_asides 2 = .ok (.iload_n 1, 1) := by decide +kernel
theorem dX9_asides_3 : decode cX9_asides 3 = .ok (.bipush 80, 2) := by decide +kernel
theorem dX9_asides_5 : decode cX9_asides 5 = .ok (.if_icmp .ge 21, 3) := by decide +kernel
theorem dX9_asides_8 : decode cX9_asides 8 = .ok (.aload_n 0, 1) := by decide +kernel
theorem dX9_asides_9 : decode cX9_asides 9 = .ok (.getfield 32, 3) := by decide +kernel
theorem dX9_asides_12 : decode cX9_asides 12 = .ok (.iload_n 1, 1) := by decide +kernel
theorem dX9_asides_13 : decode cX9_asides 13 = .ok (.aload_n 0, 1) := by decide +kernel
theorem dX9_asides_14 : decode cX9_asides 14 = .ok (.getfield 19, 3) := by decide +kernel
theorem dX9_asides_17 : decode cX9_asides 17 = .ok (.iload_n 1, 1) := by decide +kernel
theorem dX9_asides_18 : decode cX9_asides 18 = .ok (.laload, 1) := by decide +kernel
theorem dX9_asides_19 : decode cX9_asides 19 = .ok (.lastore, 1) := by decide +kernel
theorem dX9_asides_20 : decode cX9_asides 20 = .ok (.iinc 1 1, 3) := by decide +kernel
theorem dX9_asides_23 : decode cX9_asides 23 = .ok (.goto (-21), 3) := by decide +kernel
theorem dX9_asides_26 : decode cX9_asides 26 = .ok (.return_, 1) := by decide +kernel
theorem dX9_backs_0 : decode cX9_backs 0 = .ok (.iconst 0, 1) := by decide +kernel
theorem dX9_backs_1 : decode cX9_backs 1 = .ok (.istore_n 1, 1) := by decide +kernel
theorem dX9_backs_2 : decode cX9_backs 2 = .ok (.iload_n 1, 1) := by decide +kernel
theorem dX9_backs_3 : decode cX9_backs 3 = .ok (.bipush 80, 2) := by decide +kernel
theorem dX9_backs_5 : decode cX9_backs 5 = .ok (.if_icmp .ge 21, 3) := by decide +kernel
theorem dX9_backs_8 : decode cX9_backs 8 = .ok (.aload_n 0, 1) := by decide +kernel
theorem dX9_backs_9 : decode cX9_backs 9 = .ok (.getfield 19, 3) := by decide +kernel
theorem dX9_backs_12 : decode cX9_backs 12 = .ok (.iload_n 1, 1) := by decide +kernel
theorem dX9_backs_13 : decode cX9_backs 13 = .ok (.aload_n 0, 1) := by decide +kernel
theorem dX9_backs_14 : decode cX9_backs 14 = .ok (.getfield 32, 3) := by decide +kernel
theorem dX9_backs_17 : decode cX9_backs 17 = .ok (.iload_n 1, 1) := by decide +kernel
theorem dX9_backs_18 : decode cX9_backs 18 = .ok (.laload, 1) := by decide +kernel
theorem dX9_backs_19 : decode cX9_backs 19 = .ok (.lastore, 1) := by decide +kernel
theorem dX9_backs_20 : decode cX9_backs 20 = .ok (.iinc 1 1, 3) := by decide +kernel
theorem dX9_backs_23 : decode cX9_backs 23 = .ok (.goto (-21), 3) := by decide +kernel
theorem dX9_backs_26 : decode cX9_backs 26 = .ok (.return_, 1) := by decide +kernel
theorem dX9_where_0 : decode cX9_where 0 = .ok (.iload_n 1, 1) := by decide +kernel
theorem dX9_where_1 : decode cX9_where 1 = .ok (.i2l, 1) := by decide +kernel
theorem dX9_where_2 : decode cX9_where 2 = .ok (.lconst 0, 1) := by decide +kernel
theorem dX9_where_3 : decode cX9_where 3 = .ok (.ldc2_w 259, 3) := by decide +kernel
theorem dX9_where_6 : decode cX9_where 6 = .ok (.invokestatic 67, 3) := by decide +kernel
theorem dX9_where_9 : decode cX9_where 9 = .ok (.ifCond .ne 6, 3) := by decide +kernel
theorem dX9_where_12 : decode cX9_where 12 = .ok (.ldc 142, 2) := by decide +kernel
theorem dX9_where_14 : decode cX9_where 14 = .ok (.ireturn, 1) := by decide +kernel
theorem dX9_where_15 : decode cX9_where 15 = .ok (.aload_n 0, 1) := by decide +kernel
theorem dX9_where_16 : decode cX9_where 16 = .ok (.getfield 64, 3) := by decide +kernel
theorem dX9_where_19 : decode cX9_where 19 = .ok (.ifCond .ne 6, 3) := by decide +kernel
theorem dX9_where_22 : decode cX9_where 22 = .ok (.ldc 220, 2) := by decide +kernel
theorem dX9_where_24 : decode cX9_where 24 = .ok (.ireturn, 1) := by decide +kernel
theorem dX9_where_25 : decode cX9_where 25 = .ok (.aload_n 0, 1) := by decide +kernel
theorem dX9_where_26 : decode cX9_where 26 = .ok (.invokevirtual 261, 3) := by decide +kernel
theorem dX9_where_29 : decode cX9_where 29 = .ok (.aload_n 0, 1) := by decide +kernel
theorem dX9_where_30 : decode cX9_where 30 = .ok (.iload_n 1, 1) := by decide +kernel
theorem dX9_where_31 : decode cX9_where 31 = .ok (.invokevirtual 226, 3) := by decide +kernel
theorem dX9_where_34 : decode cX9_where 34 = .ok (.aload_n 0, 1) := by decide +kernel
theorem dX9_where_35 : decode cX9_where 35 = .ok (.iconst 2, 1) := by decide +kernel
theorem dX9_where_36 : decode cX9_where 36 = .ok (.invokevirtual 97, 3) := by decide +kernel
theorem dX9_where_39 : decode cX9_where 39 = .ok (.istore_n 2, 1) := by decide +kernel
theorem dX9_where_40 : decode cX9_where 40 = .ok (.aload_n 0, 1) := by decide +kernel
theorem dX9_where_41 : decode cX9_where 41 = .ok (.invokevirtual 264, 3) := by decide +kernel
theorem dX9_where_44 : decode cX9_where 44 = .ok (.iload_n 2, 1) := by decide +kernel
theorem dX9_where_45 : decode cX9_where 45 = .ok (.ireturn, 1) := by decide +kernel
theorem dX9_whenIn_0 : decode cX9_whenIn 0 = .ok (.iconst 0, 1) := by decide +kernel
theorem dX9_whenIn_1 : decode cX9_whenIn 1 = .ok (.istore_n 3, 1) := by decide +kernel
theorem dX9_whenIn_2 : decode cX9_whenIn 2 = .ok (.iload_n 3, 1) := by decide +kernel
theorem dX9_whenIn_3 : decode cX9_whenIn 3 = .ok (.iload_n 2, 1) := by decide +kernel
theorem dX9_whenIn_4 : decode cX9_whenIn 4 = .ok (.if_icmp .gt 22, 3) := by decide +kernel
theorem dX9_whenIn_7 : decode cX9_whenIn 7 = .ok (.aload_n 0, 1) := by decide +kernel
theorem dX9_whenIn_8 : decode cX9_whenIn 8 = .ok (.iconst 2, 1) := by decide +kernel
theorem dX9_whenIn_9 : decode cX9_whenIn 9 = .ok (.invokevirtual 97, 3) := by decide +kernel
theorem dX9_whenIn_12 : decode cX9_whenIn 12 = .ok (.iload_n 1, 1) := by decide +kernel
theorem dX9_whenIn_13 : decode cX9_whenIn 13 = .ok (.if_icmp .eq 13, 3) := by decide +kernel
theorem dX9_whenIn_16 : decode cX9_whenIn 16 = .ok (.aload_n 0, 1) := by decide +kernel
theorem dX9_whenIn_17 : decode cX9_whenIn 17 = .ok (.invokevirtual 137, 3) := by decide +kernel
theorem dX9_whenIn_20 : decode cX9_whenIn 20 = .ok (.iinc 3 1, 3) := by decide +kernel
theorem dX9_whenIn_23 : decode cX9_whenIn 23 = .ok (.goto (-21), 3) := by decide +kernel
theorem dX9_whenIn_26 : decode cX9_whenIn 26 = .ok (.aload_n 0, 1) := by decide +kernel
theorem dX9_whenIn_27 : decode cX9_whenIn 27 = .ok (.invokevirtual 264, 3) := by decide +kernel
theorem dX9_whenIn_30 : decode cX9_whenIn 30 = .ok (.iload_n 3, 1) := by decide +kernel
theorem dX9_whenIn_31 : decode cX9_whenIn 31 = .ok (.ireturn, 1) := by decide +kernel
theorem dX9_when_0 : decode cX9_when 0 = .ok (.aload_n 0, 1) := by decide +kernel
theorem dX9_when_1 : decode cX9_when 1 = .ok (.iload_n 1, 1) := by decide +kernel
theorem dX9_when_2 : decode cX9_when 2 = .ok (.invokevirtual 202, 3) := by decide +kernel
theorem dX9_when_5 : decode cX9_when 5 = .ok (.ifCond .ne 6, 3) := by decide +kernel
theorem dX9_when_8 : decode cX9_when 8 = .ok (.ldc 205, 2) := by decide +kernel
theorem dX9_when_10 : decode cX9_when 10 = .ok (.ireturn, 1) := by decide +kernel
theorem dX9_when_11 : decode cX9_when 11 = .ok (.aload_n 0, 1) := by decide +kernel
theorem dX9_when_12 : decode cX9_when 12 = .ok (.invokevirtual 261, 3) := by decide +kernel
theorem dX9_when_15 : decode cX9_when 15 = .ok (.aload_n 0, 1) := by decide +kernel
theorem dX9_when_16 : decode cX9_when 16 = .ok (.iload_n 1, 1) := by decide +kernel
theorem dX9_when_17 : decode cX9_when 17 = .ok (.bipush 100, 2) := by decide +kernel
theorem dX9_when_19 : decode cX9_when 19 = .ok (.invokevirtual 267, 3) := by decide +kernel
theorem dX9_when_22 : decode cX9_when 22 = .ok (.istore_n 2, 1) := by decide +kernel
theorem dX9_when_23 : decode cX9_when 23 = .ok (.iload_n 2, 1) := by decide +kernel
theorem dX9_when_24 : decode cX9_when 24 = .ok (.bipush 100, 2) := by decide +kernel
theorem dX9_when_26 : decode cX9_when 26 = .ok (.if_icmp .le 7, 3) := by decide +kernel
theorem dX9_when_29 : decode cX9_when 29 = .ok (.iconst (-1), 1) := by decide +kernel
theorem dX9_when_30 : decode cX9_when 30 = .ok (.goto 4, 3) := by decide +kernel
theorem dX9_when_33 : decode cX9_when 33 = .ok (.iload_n 2, 1) := by decide +kernel
theorem dX9_when_34 : decode cX9_when 34 = .ok (.ireturn, 1) := by decide +kernel
theorem dX9_governed_0 : decode cX9_governed 0 = .ok (.aload_n 0, 1) := by decide +kernel
theorem dX9_governed_1 : decode cX9_governed 1 = .ok (.iload_n 1, 1) := by decide +kernel
theorem dX9_governed_2 : decode cX9_governed 2 = .ok (.invokevirtual 202, 3) := by decide +kernel
theorem dX9_governed_5 : decode cX9_governed 5 = .ok (.ifCond .ne 6, 3) := by decide +kernel
theorem dX9_governed_8 : decode cX9_governed 8 = .ok (.ldc 205, 2) := by decide +kernel
theorem dX9_governed_10 : decode cX9_governed 10 = .ok (.ireturn, 1) := by decide +kernel
theorem dX9_governed_11 : decode cX9_governed 11 = .ok (.iload_n 2, 1) := by decide +kernel
theorem dX9_governed_12 : decode cX9_governed 12 = .ok (.i2l, 1) := by decide +kernel
theorem dX9_governed_13 : decode cX9_governed 13 = .ok (.lconst 1, 1) := by decide +kernel
theorem dX9_governed_14 : decode cX9_governed 14 = .ok (.ldc2_w 259, 3) := by decide +kernel
theorem dX9_governed_17 : decode cX9_governed 17 = .ok (.invokestatic 67, 3) := by decide +kernel
theorem dX9_governed_20 : decode cX9_governed 20 = .ok (.ifCond .ne 6, 3) := by decide +kernel
theorem dX9_governed_23 : decode cX9_governed 23 = .ok (.ldc 142, 2) := by decide +kernel
theorem dX9_governed_25 : decode cX9_governed 25 = .ok (.ireturn, 1) := by decide +kernel
theorem dX9_governed_26 : decode cX9_governed 26 = .ok (.aload_n 0, 1) := by decide +kernel
theorem dX9_governed_27 : decode cX9_governed 27 = .ok (.invokevirtual 261, 3) := by decide +kernel
theorem dX9_governed_30 : decode cX9_governed 30 = .ok (.aload_n 0, 1) := by decide +kernel
theorem dX9_governed_31 : decode cX9_governed 31 = .ok (.iload_n 2, 1) := by decide +kernel
theorem dX9_governed_32 : decode cX9_governed 32 = .ok (.invokevirtual 226, 3) := by decide +kernel
theorem dX9_governed_35 : decode cX9_governed 35 = .ok (.aload_n 0, 1) := by decide +kernel
theorem dX9_governed_36 : decode cX9_governed 36 = .ok (.getfield 19, 3) := by decide +kernel
theorem dX9_governed_39 : decode cX9_governed 39 = .ok (.bipush 18, 2) := by decide +kernel
theorem dX9_governed_41 : decode cX9_governed 41 = .ok (.iload_n 1, 1) := by decide +kernel
theorem dX9_governed_42 : decode cX9_governed 42 = .ok (.iadd, 1) := by decide +kernel
theorem dX9_governed_43 : decode cX9_governed 43 = .ok (.laload, 1) := by decide +kernel
theorem dX9_governed_44 : decode cX9_governed 44 = .ok (.aload_n 0, 1) := by decide +kernel
theorem dX9_governed_45 : decode cX9_governed 45 = .ok (.getfield 32, 3) := by decide +kernel
theorem dX9_governed_48 : decode cX9_governed 48 = .ok (.bipush 18, 2) := by decide +kernel
theorem dX9_governed_50 : decode cX9_governed 50 = .ok (.iload_n 1, 1) := by decide +kernel
theorem dX9_governed_51 : decode cX9_governed 51 = .ok (.iadd, 1) := by decide +kernel
theorem dX9_governed_52 : decode cX9_governed 52 = .ok (.laload, 1) := by decide +kernel
theorem dX9_governed_53 : decode cX9_governed 53 = .ok (.lsub, 1) := by decide +kernel
theorem dX9_governed_54 : decode cX9_governed 54 = .ok (.l2i, 1) := by decide +kernel
theorem dX9_governed_55 : decode cX9_governed 55 = .ok (.istore_n 3, 1) := by decide +kernel
theorem dX9_governed_56 : decode cX9_governed 56 = .ok (.aload_n 0, 1) := by decide +kernel
theorem dX9_governed_57 : decode cX9_governed 57 = .ok (.invokevirtual 264, 3) := by decide +kernel
theorem dX9_governed_60 : decode cX9_governed 60 = .ok (.iload_n 3, 1) := by decide +kernel
theorem dX9_governed_61 : decode cX9_governed 61 = .ok (.ireturn, 1) := by decide +kernel
theorem dX9_ring_0 : decode cX9_ring 0 = .ok (.aload_n 0, 1) := by decide +kernel
theorem dX9_ring_1 : decode cX9_ring 1 = .ok (.getfield 64, 3) := by decide +kernel
theorem dX9_ring_4 : decode cX9_ring 4 = .ok (.ifCond .ne 6, 3) := by decide +kernel
theorem dX9_ring_7 : decode cX9_ring 7 = .ok (.ldc 220, 2) := by decide +kernel
theorem dX9_ring_9 : decode cX9_ring 9 = .ok (.ireturn, 1) := by decide +kernel
theorem dX9_ring_10 : decode cX9_ring 10 = .ok (.aload_n 0, 1) := by decide +kernel
theorem dX9_ring_11 : decode cX9_ring 11 = .ok (.invokevirtual 261, 3) := by decide +kernel
theorem dX9_ring_14 : decode cX9_ring 14 = .ok (.iconst 0, 1) := by decide +kernel
theorem dX9_ring_15 : decode cX9_ring 15 = .ok (.istore_n 1, 1) := by decide +kernel
theorem dX9_ring_16 : decode cX9_ring 16 = .ok (.iconst 0, 1) := by decide +kernel
theorem dX9_ring_17 : decode cX9_ring 17 = .ok (.istore_n 2, 1) := by decide +kernel
theorem dX9_ring_18 : decode cX9_ring 18 = .ok (.iconst 0, 1) := by decide +kernel
theorem dX9_ring_19 : decode cX9_ring 19 = .ok (.istore_n 3, 1) := by decide +kernel
theorem dX9_ring_20 : decode cX9_ring 20 = .ok (.iload_n 1, 1) := by decide +kernel
theorem dX9_ring_21 : decode cX9_ring 21 = .ok (.bipush 100, 2) := by decide +kernel
theorem dX9_ring_23 : decode cX9_ring 23 = .ok (.if_icmp .ge 69, 3) := by decide +kernel
theorem dX9_ring_26 : decode cX9_ring 26 = .ok (.iload_n 3, 1) := by decide +kernel
theorem dX9_ring_27 : decode cX9_ring 27 = .ok (.ifCond .ne 65, 3) := by decide +kernel
theorem dX9_ring_30 : decode cX9_ring 30 = .ok (.aload_n 0, 1) := by decide +kernel
theorem dX9_ring_31 : decode cX9_ring 31 = .ok (.invokevirtual 137, 3) := by decide +kernel
theorem dX9_ring_34 : decode cX9_ring 34 = .ok (.iinc 1 1, 3) := by decide +kernel
theorem dX9_ring_37 : decode cX9_ring 37 = .ok (.iload_n 2, 1) := by decide +kernel
theorem dX9_ring_38 : decode cX9_ring 38 = .ok (.ifCond .eq 23, 3) := by decide +kernel
theorem dX9_ring_41 : decode cX9_ring 41 = .ok (.aload_n 0, 1) := by decide +kernel
theorem dX9_ring_42 : decode cX9_ring 42 = .ok (.getfield 19, 3) := by decide +kernel
theorem dX9_ring_45 : decode cX9_ring 45 = .ok (.iconst 2, 1) := by decide +kernel
theorem dX9_ring_46 : decode cX9_ring 46 = .ok (.laload, 1) := by decide +kernel
theorem dX9_ring_47 : decode cX9_ring 47 = .ok (.aload_n 0, 1) := by decide +kernel
theorem dX9_ring_48 : decode cX9_ring 48 = .ok (.getfield 32, 3) := by decide +kernel
theorem dX9_ring_51 : decode cX9_ring 51 = .ok (.iconst 2, 1) := by decide +kernel
theorem dX9_ring_52 : decode cX9_ring 52 = .ok (.laload, 1) := by decide +kernel
theorem dX9_ring_53 : decode cX9_ring 53 = .ok (.lcmp, 1) := by decide +kernel
theorem dX9_ring_54 : decode cX9_ring 54 = .ok (.ifCond .ne 7, 3) := by decide +kernel
theorem dX9_ring_57 : decode cX9_ring 57 = .ok (.iconst 1, 1) := by decide +kernel
theorem dX9_ring_58 : decode cX9_ring 58 = .ok (.goto 4, 3) := by decide +kernel
theorem dX9_ring_61 : decode cX9_ring 61 = .ok (.iconst 0, 1) := by decide +kernel
theorem dX9_ring_62 : decode cX9_ring 62 = .ok (.istore_n 3, 1) := by decide +kernel
theorem dX9_ring_63 : decode cX9_ring 63 = .ok (.iload_n 2, 1) := by decide +kernel
theorem dX9_ring_64 : decode cX9_ring 64 = .ok (.ifCond .ne 19, 3) := by decide +kernel
theorem dX9_ring_67 : decode cX9_ring 67 = .ok (.aload_n 0, 1) := by decide +kernel
theorem dX9_ring_68 : decode cX9_ring 68 = .ok (.getfield 19, 3) := by decide +kernel
theorem dX9_ring_71 : decode cX9_ring 71 = .ok (.iconst 2, 1) := by decide +kernel
theorem dX9_ring_72 : decode cX9_ring 72 = .ok (.laload, 1) := by decide +kernel
theorem dX9_ring_73 : decode cX9_ring 73 = .ok (.aload_n 0, 1) := by decide +kernel
theorem dX9_ring_74 : decode cX9_ring 74 = .ok (.getfield 32, 3) := by decide +kernel
theorem dX9_ring_77 : decode cX9_ring 77 = .ok (.iconst 2, 1) := by decide +kernel
theorem dX9_ring_78 : decode cX9_ring 78 = .ok (.laload, 1) := by decide +kernel
theorem dX9_ring_79 : decode cX9_ring 79 = .ok (.lcmp, 1) := by decide +kernel
theorem dX9_ring_80 : decode cX9_ring 80 = .ok (.ifCond .eq 7, 3) := by decide +kernel
theorem dX9_ring_83 : decode cX9_ring 83 = .ok (.iconst 1, 1) := by decide +kernel
theorem dX9_ring_84 : decode cX9_ring 84 = .ok (.goto 4, 3) := by decide +kernel
theorem dX9_ring_87 : decode cX9_ring 87 = .ok (.iconst 0, 1) := by decide +kernel
theorem dX9_ring_88 : decode cX9_ring 88 = .ok (.istore_n 2, 1) := by decide +kernel
theorem dX9_ring_89 : decode cX9_ring 89 = .ok (.goto (-69), 3) := by decide +kernel
theorem dX9_ring_92 : decode cX9_ring 92 = .ok (.aload_n 0, 1) := by decide +kernel
theorem dX9_ring_93 : decode cX9_ring 93 = .ok (.invokevirtual 264, 3) := by decide +kernel
theorem dX9_ring_96 : decode cX9_ring 96 = .ok (.iload_n 3, 1) := by decide +kernel
theorem dX9_ring_97 : decode cX9_ring 97 = .ok (.ifCond .eq 7, 3) := by decide +kernel
theorem dX9_ring_100 : decode cX9_ring 100 = .ok (.iload_n 1, 1) := by decide +kernel
theorem dX9_ring_101 : decode cX9_ring 101 = .ok (.goto 4, 3) := by decide +kernel
theorem dX9_ring_104 : decode cX9_ring 104 = .ok (.iconst (-1), 1) := by decide +kernel
theorem dX9_ring_105 : decode cX9_ring 105 = .ok (.ireturn, 1) := by decide +kernel
theorem dX9_many_0 : decode cX9_many 0 = .ok (.iconst 0, 1) := by decide +kernel
theorem dX9_many_1 : decode cX9_many 1 = .ok (.istore_n 1, 1) := by decide +kernel
theorem dX9_many_2 : decode cX9_many 2 = .ok (.iload_n 0, 1) := by decide +kernel
theorem dX9_many_3 : decode cX9_many 3 = .ok (.istore_n 2, 1) := by decide +kernel
theorem dX9_many_4 : decode cX9_many 4 = .ok (.iload_n 2, 1) := by decide +kernel
theorem dX9_many_5 : decode cX9_many 5 = .ok (.ifCond .eq 15, 3) := by decide +kernel
theorem dX9_many_8 : decode cX9_many 8 = .ok (.iinc 1 1, 3) := by decide +kernel
theorem dX9_many_11 : decode cX9_many 11 = .ok (.iload_n 2, 1) := by decide +kernel
theorem dX9_many_12 : decode cX9_many 12 = .ok (.iload_n 2, 1) := by decide +kernel
theorem dX9_many_13 : decode cX9_many 13 = .ok (.iconst 1, 1) := by decide +kernel
theorem dX9_many_14 : decode cX9_many 14 = .ok (.isub, 1) := by decide +kernel
theorem dX9_many_15 : decode cX9_many 15 = .ok (.iand, 1) := by decide +kernel
theorem dX9_many_16 : decode cX9_many 16 = .ok (.istore_n 2, 1) := by decide +kernel
theorem dX9_many_17 : decode cX9_many 17 = .ok (.goto (-13), 3) := by decide +kernel
theorem dX9_many_20 : decode cX9_many 20 = .ok (.iload_n 1, 1) := by decide +kernel
theorem dX9_many_21 : decode cX9_many 21 = .ok (.ireturn, 1) := by decide +kernel
theorem dX9_carpets_0 : decode cX9_carpets 0 = .ok (.aload_n 0, 1) := by decide +kernel
theorem dX9_carpets_1 : decode cX9_carpets 1 = .ok (.iload_n 1, 1) := by decide +kernel
theorem dX9_carpets_2 : decode cX9_carpets 2 = .ok (.invokevirtual 202, 3) := by decide +kernel
theorem dX9_carpets_5 : decode cX9_carpets 5 = .ok (.ifCond .ne 6, 3) := by decide +kernel
theorem dX9_carpets_8 : decode cX9_carpets 8 = .ok (.ldc 205, 2) := by decide +kernel
theorem dX9_carpets_10 : decode cX9_carpets 10 = .ok (.ireturn, 1) := by decide +kernel
theorem dX9_carpets_11 : decode cX9_carpets 11 = .ok (.iload_n 2, 1) := by decide +kernel
theorem dX9_carpets_12 : decode cX9_carpets 12 = .ok (.i2l, 1) := by decide +kernel
theorem dX9_carpets_13 : decode cX9_carpets 13 = .ok (.lconst 0, 1) := by decide +kernel
theorem dX9_carpets_14 : decode cX9_carpets 14 = .ok (.ldc2_w 270, 3) := by decide +kernel
theorem dX9_carpets_17 : decode cX9_carpets 17 = .ok (.invokestatic 67, 3) := by decide +kernel
theorem dX9_carpets_20 : decode cX9_carpets 20 = .ok (.ifCond .ne 6, 3) := by decide +kernel
theorem dX9_carpets_23 : decode cX9_carpets 23 = .ok (.ldc 142, 2) := by decide +kernel
theorem dX9_carpets_25 : decode cX9_carpets 25 = .ok (.ireturn, 1) := by decide +kernel
theorem dX9_carpets_26 : decode cX9_carpets 26 = .ok (.iconst (-1), 1) := by decide +kernel
theorem dX9_carpets_27 : decode cX9_carpets 27 = .ok (.istore_n 3, 1) := by decide +kernel
theorem dX9_carpets_28 : decode cX9_carpets 28 = .ok (.aload_n 0, 1) := by decide +kernel
theorem dX9_carpets_29 : decode cX9_carpets 29 = .ok (.invokevirtual 261, 3) := by decide +kernel
theorem dX9_carpets_32 : decode cX9_carpets 32 = .ok (.iconst 0, 1) := by decide +kernel
theorem dX9_carpets_33 : decode cX9_carpets 33 = .ok (.istore 4, 2) := by decide +kernel
theorem dX9_carpets_35 : decode cX9_carpets 35 = .ok (.iload 4, 2) := by decide +kernel
theorem dX9_carpets_37 : decode cX9_carpets 37 = .ok (.iconst 1, 1) := by decide +kernel
theorem dX9_carpets_38 : decode cX9_carpets 38 = .ok (.aload_n 0, 1) := by decide +kernel
theorem dX9_carpets_39 : decode cX9_carpets 39 = .ok (.getfield 64, 3) := by decide +kernel
theorem dX9_carpets_42 : decode cX9_carpets 42 = .ok (.ishl, 1) := by decide +kernel
theorem dX9_carpets_43 : decode cX9_carpets 43 = .ok (.if_icmp .ge 55, 3) := by decide +kernel
theorem dX9_carpets_46 : decode cX9_carpets 46 = .ok (.iload_n 3, 1) := by decide +kernel
theorem dX9_carpets_47 : decode cX9_carpets 47 = .ok (.iconst (-1), 1) := by decide +kernel
theorem dX9_carpets_48 : decode cX9_carpets 48 = .ok (.if_icmp .eq 15, 3) := by decide +kernel
theorem dX9_carpets_51 : decode cX9_carpets 51 = .ok (.iload 4, 2) := by decide +kernel
theorem dX9_carpets_53 : decode cX9_carpets 53 = .ok (.invokestatic 272, 3) := by decide +kernel
theorem dX9_carpets_56 : decode cX9_carpets 56 = .ok (.iload_n 3, 1) := by decide +kernel
theorem dX9_carpets_57 : decode cX9_carpets 57 = .ok (.invokestatic 272, 3) := by decide +kernel
theorem dX9_carpets_60 : decode cX9_carpets 60 = .ok (.if_icmp .ge 32, 3) := by decide +kernel
theorem dX9_carpets_63 : decode cX9_carpets 63 = .ok (.aload_n 0, 1) := by decide +kernel
theorem dX9_carpets_64 : decode cX9_carpets 64 = .ok (.getfield 19, 3) := by decide +kernel
theorem dX9_carpets_67 : decode cX9_carpets 67 = .ok (.iconst 4, 1) := by decide +kernel
theorem dX9_carpets_68 : decode cX9_carpets 68 = .ok (.dup2, 1) := by decide +kernel
theorem dX9_carpets_69 : decode cX9_carpets 69 = .ok (.laload, 1) := by decide +kernel
theorem dX9_carpets_70 : decode cX9_carpets 70 = .ok (.iload 4, 2) := by decide +kernel
theorem dX9_carpets_72 : decode cX9_carpets 72 = .ok (.i2l, 1) := by decide +kernel
theorem dX9_carpets_73 : decode cX9_carpets 73 = .ok (.lxor, 1) := by decide +kernel
theorem dX9_carpets_74 : decode cX9_carpets 74 = .ok (.lastore, 1) := by decide +kernel
theorem dX9_carpets_75 : decode cX9_carpets 75 = .ok (.aload_n 0, 1) := by decide +kernel
theorem dX9_carpets_76 : decode cX9_carpets 76 = .ok (.iload_n 1, 1) := by decide +kernel
theorem dX9_carpets_77 : decode cX9_carpets 77 = .ok (.iload_n 2, 1) := by decide +kernel
theorem dX9_carpets_78 : decode cX9_carpets 78 = .ok (.invokevirtual 267, 3) := by decide +kernel
theorem dX9_carpets_81 : decode cX9_carpets 81 = .ok (.iload_n 2, 1) := by decide +kernel
theorem dX9_carpets_82 : decode cX9_carpets 82 = .ok (.if_icmp .gt 8, 3) := by decide +kernel
theorem dX9_carpets_85 : decode cX9_carpets 85 = .ok (.iload 4, 2) := by decide +kernel
theorem dX9_carpets_87 : decode cX9_carpets 87 = .ok (.goto 4, 3) := by decide +kernel
theorem dX9_carpets_90 : decode cX9_carpets 90 = .ok (.iload_n 3, 1) := by decide +kernel
theorem dX9_carpets_91 : decode cX9_carpets 91 = .ok (.istore_n 3, 1) := by decide +kernel
theorem dX9_carpets_92 : decode cX9_carpets 92 = .ok (.iinc 4 1, 3) := by decide +kernel
theorem dX9_carpets_95 : decode cX9_carpets 95 = .ok (.goto (-60), 3) := by decide +kernel
theorem dX9_carpets_98 : decode cX9_carpets 98 = .ok (.iload_n 3, 1) := by decide +kernel
theorem dX9_carpets_99 : decode cX9_carpets 99 = .ok (.ireturn, 1) := by decide +kernel
theorem dX9_reached_0 : decode cX9_reached 0 = .ok (.iconst 1, 1) := by decide +kernel
theorem dX9_reached_1 : decode cX9_reached 1 = .ok (.aload_n 0, 1) := by decide +kernel
theorem dX9_reached_2 : decode cX9_reached 2 = .ok (.iconst 2, 1) := by decide +kernel
theorem dX9_reached_3 : decode cX9_reached 3 = .ok (.invokevirtual 97, 3) := by decide +kernel
theorem dX9_reached_6 : decode cX9_reached 6 = .ok (.ishl, 1) := by decide +kernel
theorem dX9_reached_7 : decode cX9_reached 7 = .ok (.istore_n 2, 1) := by decide +kernel
theorem dX9_reached_8 : decode cX9_reached 8 = .ok (.iconst 0, 1) := by decide +kernel
theorem dX9_reached_9 : decode cX9_reached 9 = .ok (.istore_n 3, 1) := by decide +kernel
theorem dX9_reached_10 : decode cX9_reached 10 = .ok (.iload_n 3, 1) := by decide +kernel
theorem dX9_reached_11 : decode cX9_reached 11 = .ok (.aload_n 0, 1) := by decide +kernel
theorem dX9_reached_12 : decode cX9_reached 12 = .ok (.getfield 64, 3) := by decide +kernel
theorem dX9_reached_15 : decode cX9_reached 15 = .ok (.if_icmp .ge 154, 3) := by decide +kernel
theorem dX9_reached_18 : decode cX9_reached 18 = .ok (.iconst 0, 1) := by decide +kernel
theorem dX9_reached_19 : decode cX9_reached 19 = .ok (.istore 4, 2) := by decide +kernel
theorem dX9_reached_21 : decode cX9_reached 21 = .ok (.iload 4, 2) := by decide +kernel
theorem dX9_reached_23 : decode cX9_reached 23 = .ok (.aload_n 0, 1) := by decide +kernel
theorem dX9_reached_24 : decode cX9_reached 24 = .ok (.getfield 71, 3) := by decide +kernel
theorem dX9_reached_27 : decode cX9_reached 27 = .ok (.if_icmp .ge 136, 3) := by decide +kernel
theorem dX9_reached_30 : decode cX9_reached 30 = .ok (.iconst 1, 1) := by decide +kernel
theorem dX9_reached_31 : decode cX9_reached 31 = .ok (.aload_n 0, 1) := by decide +kernel
theorem dX9_reached_32 : decode cX9_reached 32 = .ok (.getfield 7, 3) := by decide +kernel
theorem dX9_reached_35 : decode cX9_reached 35 = .ok (.iload 4, 2) := by decide +kernel
theorem dX9_reached_37 : decode cX9_reached 37 = .ok (.iaload, 1) := by decide +kernel
theorem dX9_reached_38 : decode cX9_reached 38 = .ok (.ishl, 1) := by decide +kernel
theorem dX9_reached_39 : decode cX9_reached 39 = .ok (.istore 5, 2) := by decide +kernel
theorem dX9_reached_41 : decode cX9_reached 41 = .ok (.iconst 1, 1) := by decide +kernel
theorem dX9_reached_42 : decode cX9_reached 42 = .ok (.aload_n 0, 1) := by decide +kernel
theorem dX9_reached_43 : decode cX9_reached 43 = .ok (.getfield 13, 3) := by decide +kernel
theorem dX9_reached_46 : decode cX9_reached 46 = .ok (.iload 4, 2) := by decide +kernel
theorem dX9_reached_48 : decode cX9_reached 48 = .ok (.iaload, 1) := by decide +kernel
theorem dX9_reached_49 : decode cX9_reached 49 = .ok (.ishl, 1) := by decide +kernel
theorem dX9_reached_50 : decode cX9_reached 50 = .ok (.istore 6, 2) := by decide +kernel
theorem dX9_reached_52 : decode cX9_reached 52 = .ok (.aload_n 0, 1) := by decide +kernel
theorem dX9_reached_53 : decode cX9_reached 53 = .ok (.getfield 19, 3) := by decide +kernel
theorem dX9_reached_56 : decode cX9_reached 56 = .ok (.bipush 6, 2) := by decide +kernel
theorem dX9_reached_58 : decode cX9_reached 58 = .ok (.laload, 1) := by decide +kernel
theorem dX9_reached_59 : decode cX9_reached 59 = .ok (.iload_n 1, 1) := by decide +kernel
theorem dX9_reached_60 : decode cX9_reached 60 = .ok (.i2l, 1) := by decide +kernel
theorem dX9_reached_61 : decode cX9_reached 61 = .ok (.lor, 1) := by decide +kernel
theorem dX9_reached_62 : decode cX9_reached 62 = .ok (.iload 4, 2) := by decide +kernel
theorem dX9_reached_64 : decode cX9_reached 64 = .ok (.invokestatic 85, 3) := by decide +kernel
theorem dX9_reached_67 : decode cX9_reached 67 = .ok (.ifCond .ne 7, 3) := by decide +kernel
theorem dX9_reached_70 : decode cX9_reached 70 = .ok (.iconst 1, 1) := by decide +kernel
theorem dX9_reached_71 : decode cX9_reached 71 = .ok (.goto 4, 3) := by decide +kernel
theorem dX9_reached_74 : decode cX9_reached 74 = .ok (.iconst 0, 1) := by decide +kernel
theorem dX9_reached_75 : decode cX9_reached 75 = .ok (.istore 7, 2) := by decide +kernel
theorem dX9_reached_77 : decode cX9_reached 77 = .ok (.iload_n 2, 1) := by decide +kernel
theorem dX9_reached_78 : decode cX9_reached 78 = .ok (.iload 7, 2) := by decide +kernel
theorem dX9_reached_80 : decode cX9_reached 80 = .ok (.ifCond .eq 34, 3) := by decide +kernel
theorem dX9_reached_83 : decode cX9_reached 83 = .ok (.iload_n 2, 1) := by decide +kernel
theorem dX9_reached_84 : decode cX9_reached 84 = .ok (.iload 5, 2) := by decide +kernel
theorem dX9_reached_86 : decode cX9_reached 86 = .ok (.iand, 1) := by decide +kernel
theorem dX9_reached_87 : decode cX9_reached 87 = .ok (.ifCond .eq 27, 3) := by decide +kernel
theorem dX9_reached_90 : decode cX9_reached 90 = .ok (.aload_n 0, 1) := by decide +kernel
theorem dX9_reached_91 : decode cX9_reached 91 = .ok (.getfield 19, 3) := by decide +kernel
theorem dX9_reached_94 : decode cX9_reached 94 = .ok (.iconst 5, 1) := by decide +kernel
theorem dX9_reached_95 : decode cX9_reached 95 = .ok (.laload, 1) := by decide +kernel
theorem dX9_reached_96 : decode cX9_reached 96 = .ok (.aload_n 0, 1) := by decide +kernel
theorem dX9_reached_97 : decode cX9_reached 97 = .ok (.getfield 13, 3) := by decide +kernel
theorem dX9_reached_100 : decode cX9_reached 100 = .ok (.iload 4, 2) := by decide +kernel
theorem dX9_reached_102 : decode cX9_reached 102 = .ok (.iaload, 1) := by decide +kernel
theorem dX9_reached_103 : decode cX9_reached 103 = .ok (.invokestatic 85, 3) := by decide +kernel
theorem dX9_reached_106 : decode cX9_reached 106 = .ok (.ifCond .ne 8, 3) := by decide +kernel
theorem dX9_reached_109 : decode cX9_reached 109 = .ok (.iload 6, 2) := by decide +kernel
theorem dX9_reached_111 : decode cX9_reached 111 = .ok (.goto 4, 3) := by decide +kernel
theorem dX9_reached_114 : decode cX9_reached 114 = .ok (.iconst 0, 1) := by decide +kernel
theorem dX9_reached_115 : decode cX9_reached 115 = .ok (.ior, 1) := by decide +kernel
theorem dX9_reached_116 : decode cX9_reached 116 = .ok (.istore_n 2, 1) := by decide +kernel
theorem dX9_reached_117 : decode cX9_reached 117 = .ok (.iload_n 2, 1) := by decide +kernel
theorem dX9_reached_118 : decode cX9_reached 118 = .ok (.iload 7, 2) := by decide +kernel
theorem dX9_reached_120 : decode cX9_reached 120 = .ok (.ifCond .eq 34, 3) := by decide +kernel
theorem dX9_reached_123 : decode cX9_reached 123 = .ok (.iload_n 2, 1) := by decide +kernel
theorem dX9_reached_124 : decode cX9_reached 124 = .ok (.iload 6, 2) := by decide +kernel
theorem dX9_reached_126 : decode cX9_reached 126 = .ok (.iand, 1) := by decide +kernel
theorem dX9_reached_127 : decode cX9_reached 127 = .ok (.ifCond .eq 27, 3) := by decide +kernel
theorem dX9_reached_130 : decode cX9_reached 130 = .ok (.aload_n 0, 1) := by decide +kernel
theorem dX9_reached_131 : decode cX9_reached 131 = .ok (.getfield 19, 3) := by decide +kernel
theorem dX9_reached_134 : decode cX9_reached 134 = .ok (.iconst 5, 1) := by decide +kernel
theorem dX9_reached_135 : decode cX9_reached 135 = .ok (.laload, 1) := by decide +kernel
theorem dX9_reached_136 : decode cX9_reached 136 = .ok (.aload_n 0, 1) := by decide +kernel
theorem dX9_reached_137 : decode cX9_reached 137 = .ok (.getfield 7, 3) := by decide +kernel
theorem dX9_reached_140 : decode cX9_reached 140 = .ok (.iload 4, 2) := by decide +kernel
theorem dX9_reached_142 : decode cX9_reached 142 = .ok (.iaload, 1) := by decide +kernel
theorem dX9_reached_143 : decode cX9_reached 143 = .ok (.invokestatic 85, 3) := by decide +kernel
theorem dX9_reached_146 : decode cX9_reached 146 = .ok (.ifCond .ne 8, 3) := by decide +kernel
theorem dX9_reached_149 : decode cX9_reached 149 = .ok (.iload 5, 2) := by decide +kernel
theorem dX9_reached_151 : decode cX9_reached 151 = .ok (.goto 4, 3) := by decide +kernel
theorem dX9_reached_154 : decode cX9_reached 154 = .ok (.iconst 0, 1) := by decide +kernel
theorem dX9_reached_155 : decode cX9_reached 155 = .ok (.ior, 1) := by decide +kernel
theorem dX9_reached_156 : decode cX9_reached 156 = .ok (.istore_n 2, 1) := by decide +kernel
theorem dX9_reached_157 : decode cX9_reached 157 = .ok (.iinc 4 1, 3) := by decide +kernel
theorem dX9_reached_160 : decode cX9_reached 160 = .ok (.goto (-139), 3) := by decide +kernel
theorem dX9_reached_163 : decode cX9_reached 163 = .ok (.iinc 3 1, 3) := by decide +kernel
theorem dX9_reached_166 : decode cX9_reached 166 = .ok (.goto (-156), 3) := by decide +kernel
theorem dX9_reached_169 : decode cX9_reached 169 = .ok (.iload_n 2, 1) := by decide +kernel
theorem dX9_reached_170 : decode cX9_reached 170 = .ok (.ireturn, 1) := by decide +kernel
theorem dX9_bricks_0 : decode cX9_bricks 0 = .ok (.aload_n 0, 1) := by decide +kernel
theorem dX9_bricks_1 : decode cX9_bricks 1 = .ok (.iload_n 1, 1) := by decide +kernel
theorem dX9_bricks_2 : decode cX9_bricks 2 = .ok (.invokevirtual 202, 3) := by decide +kernel
theorem dX9_bricks_5 : decode cX9_bricks 5 = .ok (.ifCond .ne 6, 3) := by decide +kernel
theorem dX9_bricks_8 : decode cX9_bricks 8 = .ok (.ldc 205, 2) := by decide +kernel
theorem dX9_bricks_10 : decode cX9_bricks 10 = .ok (.ireturn, 1) := by decide +kernel
theorem dX9_bricks_11 : decode cX9_bricks 11 = .ok (.aload_n 0, 1) := by decide +kernel
theorem dX9_bricks_12 : decode cX9_bricks 12 = .ok (.iconst 2, 1) := by decide +kernel
theorem dX9_bricks_13 : decode cX9_bricks 13 = .ok (.invokevirtual 97, 3) := by decide +kernel
theorem dX9_bricks_16 : decode cX9_bricks 16 = .ok (.iload_n 1, 1) := by decide +kernel
theorem dX9_bricks_17 : decode cX9_bricks 17 = .ok (.if_icmp .ne 5, 3) := by decide +kernel
theorem dX9_bricks_20 : decode cX9_bricks 20 = .ok (.iconst (-1), 1) := by decide +kernel
theorem dX9_bricks_21 : decode cX9_bricks 21 = .ok (.ireturn, 1) := by decide +kernel
theorem dX9_bricks_22 : decode cX9_bricks 22 = .ok (.iconst (-1), 1) := by decide +kernel
theorem dX9_bricks_23 : decode cX9_bricks 23 = .ok (.istore_n 2, 1) := by decide +kernel
theorem dX9_bricks_24 : decode cX9_bricks 24 = .ok (.iconst 0, 1) := by decide +kernel
theorem dX9_bricks_25 : decode cX9_bricks 25 = .ok (.istore_n 3, 1) := by decide +kernel
theorem dX9_bricks_26 : decode cX9_bricks 26 = .ok (.iload_n 3, 1) := by decide +kernel
theorem dX9_bricks_27 : decode cX9_bricks 27 = .ok (.iconst 1, 1) := by decide +kernel
theorem dX9_bricks_28 : decode cX9_bricks 28 = .ok (.aload_n 0, 1) := by decide +kernel
theorem dX9_bricks_29 : decode cX9_bricks 29 = .ok (.getfield 71, 3) := by decide +kernel
theorem dX9_bricks_32 : decode cX9_bricks 32 = .ok (.ishl, 1) := by decide +kernel
theorem dX9_bricks_33 : decode cX9_bricks 33 = .ok (.if_icmp .ge 66, 3) := by decide +kernel
theorem dX9_bricks_36 : decode cX9_bricks 36 = .ok (.iload_n 3, 1) := by decide +kernel
theorem dX9_bricks_37 : decode cX9_bricks 37 = .ok (.aload_n 0, 1) := by decide +kernel
theorem dX9_bricks_38 : decode cX9_bricks 38 = .ok (.bipush 6, 2) := by decide +kernel
theorem dX9_bricks_40 : decode cX9_bricks 40 = .ok (.invokevirtual 97, 3) := by decide +kernel
theorem dX9_bricks_43 : decode cX9_bricks 43 = .ok (.iand, 1) := by decide +kernel
theorem dX9_bricks_44 : decode cX9_bricks 44 = .ok (.ifCond .ne 23, 3) := by decide +kernel
theorem dX9_bricks_47 : decode cX9_bricks 47 = .ok (.iload_n 2, 1) := by decide +kernel
theorem dX9_bricks_48 : decode cX9_bricks 48 = .ok (.iconst (-1), 1) := by decide +kernel
theorem dX9_bricks_49 : decode cX9_bricks 49 = .ok (.if_icmp .eq 14, 3) := by decide +kernel
theorem dX9_bricks_52 : decode cX9_bricks 52 = .ok (.iload_n 3, 1) := by decide +kernel
theorem dX9_bricks_53 : decode cX9_bricks 53 = .ok (.invokestatic 272, 3) := by decide +kernel
theorem dX9_bricks_56 : decode cX9_bricks 56 = .ok (.iload_n 2, 1) := by decide +kernel
theorem dX9_bricks_57 : decode cX9_bricks 57 = .ok (.invokestatic 272, 3) := by decide +kernel
theorem dX9_bricks_60 : decode cX9_bricks 60 = .ok (.if_icmp .ge 7, 3) := by decide +kernel
theorem dX9_bricks_63 : decode cX9_bricks 63 = .ok (.iconst 1, 1) := by decide +kernel
theorem dX9_bricks_64 : decode cX9_bricks 64 = .ok (.goto 4, 3) := by decide +kernel
theorem dX9_bricks_67 : decode cX9_bricks 67 = .ok (.iconst 0, 1) := by decide +kernel
theorem dX9_bricks_68 : decode cX9_bricks 68 = .ok (.istore 4, 2) := by decide +kernel
theorem dX9_bricks_70 : decode cX9_bricks 70 = .ok (.iload 4, 2) := by decide +kernel
theorem dX9_bricks_72 : decode cX9_bricks 72 = .ok (.ifCond .eq 19, 3) := by decide +kernel
theorem dX9_bricks_75 : decode cX9_bricks 75 = .ok (.aload_n 0, 1) := by decide +kernel
theorem dX9_bricks_76 : decode cX9_bricks 76 = .ok (.iload_n 3, 1) := by decide +kernel
theorem dX9_bricks_77 : decode cX9_bricks 77 = .ok (.invokevirtual 275, 3) := by decide +kernel
theorem dX9_bricks_80 : decode cX9_bricks 80 = .ok (.iload_n 1, 1) := by decide +kernel
theorem dX9_bricks_81 : decode cX9_bricks 81 = .ok (.ishr, 1) := by decide +kernel
theorem dX9_bricks_82 : decode cX9_bricks 82 = .ok (.iconst 1, 1) := by decide +kernel
theorem dX9_bricks_83 : decode cX9_bricks 83 = .ok (.iand, 1) := by decide +kernel
theorem dX9_bricks_84 : decode cX9_bricks 84 = .ok (.ifCond .ne 7, 3) := by decide +kernel
theorem dX9_bricks_87 : decode cX9_bricks 87 = .ok (.iload_n 3, 1) := by decide +kernel
theorem dX9_bricks_88 : decode cX9_bricks 88 = .ok (.goto 4, 3) := by decide +kernel
theorem dX9_bricks_91 : decode cX9_bricks 91 = .ok (.iload_n 2, 1) := by decide +kernel
theorem dX9_bricks_92 : decode cX9_bricks 92 = .ok (.istore_n 2, 1) := by decide +kernel
theorem dX9_bricks_93 : decode cX9_bricks 93 = .ok (.iinc 3 1, 3) := by decide +kernel
theorem dX9_bricks_96 : decode cX9_bricks 96 = .ok (.goto (-70), 3) := by decide +kernel
theorem dX9_bricks_99 : decode cX9_bricks 99 = .ok (.iload_n 2, 1) := by decide +kernel
theorem dX9_bricks_100 : decode cX9_bricks 100 = .ok (.ireturn, 1) := by decide +kernel
theorem dX9_enters_0 : decode cX9_enters 0 = .ok (.aload_n 0, 1) := by decide +kernel
theorem dX9_enters_1 : decode cX9_enters 1 = .ok (.getfield 35, 3) := by decide +kernel
theorem dX9_enters_4 : decode cX9_enters 4 = .ok (.iload_n 1, 1) := by decide +kernel
theorem dX9_enters_5 : decode cX9_enters 5 = .ok (.iaload, 1) := by decide +kernel
theorem dX9_enters_6 : decode cX9_enters 6 = .ok (.ifCond .lt 84, 3) := by decide +kernel
theorem dX9_enters_9 : decode cX9_enters 9 = .ok (.aload_n 0, 1) := by decide +kernel
theorem dX9_enters_10 : decode cX9_enters 10 = .ok (.getfield 19, 3) := by decide +kernel
theorem dX9_enters_13 : decode cX9_enters 13 = .ok (.bipush 6, 2) := by decide +kernel
theorem dX9_enters_15 : decode cX9_enters 15 = .ok (.laload, 1) := by decide +kernel
theorem dX9_enters_16 : decode cX9_enters 16 = .ok (.iload_n 3, 1) := by decide +kernel
theorem dX9_enters_17 : decode cX9_enters 17 = .ok (.invokestatic 85, 3) := by decide +kernel
theorem dX9_enters_20 : decode cX9_enters 20 = .ok (.ifCond .ne 70, 3) := by decide +kernel
theorem dX9_enters_23 : decode cX9_enters 23 = .ok (.aload_n 0, 1) := by decide +kernel
theorem dX9_enters_24 : decode cX9_enters 24 = .ok (.getfield 19, 3) := by decide +kernel
theorem dX9_enters_27 : decode cX9_enters 27 = .ok (.iconst 5, 1) := by decide +kernel
theorem dX9_enters_28 : decode cX9_enters 28 = .ok (.laload, 1) := by decide +kernel
theorem dX9_enters_29 : decode cX9_enters 29 = .ok (.iload_n 2, 1) := by decide +kernel
theorem dX9_enters_30 : decode cX9_enters 30 = .ok (.invokestatic 85, 3) := by decide +kernel
theorem dX9_enters_33 : decode cX9_enters 33 = .ok (.ifCond .ne 57, 3) := by decide +kernel
theorem dX9_enters_36 : decode cX9_enters 36 = .ok (.aload_n 0, 1) := by decide +kernel
theorem dX9_enters_37 : decode cX9_enters 37 = .ok (.getfield 35, 3) := by decide +kernel
theorem dX9_enters_40 : decode cX9_enters 40 = .ok (.iload_n 1, 1) := by decide +kernel
theorem dX9_enters_41 : decode cX9_enters 41 = .ok (.iaload, 1) := by decide +kernel
theorem dX9_enters_42 : decode cX9_enters 42 = .ok (.aload_n 0, 1) := by decide +kernel
theorem dX9_enters_43 : decode cX9_enters 43 = .ok (.bipush 10, 2) := by decide +kernel
theorem dX9_enters_45 : decode cX9_enters 45 = .ok (.iload_n 2, 1) := by decide +kernel
theorem dX9_enters_46 : decode cX9_enters 46 = .ok (.iadd, 1) := by decide +kernel
theorem dX9_enters_47 : decode cX9_enters 47 = .ok (.invokevirtual 97, 3) := by decide +kernel
theorem dX9_enters_50 : decode cX9_enters 50 = .ok (.iadd, 1) := by decide +kernel
theorem dX9_enters_51 : decode cX9_enters 51 = .ok (.istore 4, 2) := by decide +kernel
theorem dX9_enters_53 : decode cX9_enters 53 = .ok (.aload_n 0, 1) := by decide +kernel
theorem dX9_enters_54 : decode cX9_enters 54 = .ok (.getfield 35, 3) := by decide +kernel
theorem dX9_enters_57 : decode cX9_enters 57 = .ok (.iload_n 2, 1) := by decide +kernel
theorem dX9_enters_58 : decode cX9_enters 58 = .ok (.aload_n 0, 1) := by decide +kernel
theorem dX9_enters_59 : decode cX9_enters 59 = .ok (.getfield 35, 3) := by decide +kernel
theorem dX9_enters_62 : decode cX9_enters 62 = .ok (.iload_n 2, 1) := by decide +kernel
theorem dX9_enters_63 : decode cX9_enters 63 = .ok (.iaload, 1) := by decide +kernel
theorem dX9_enters_64 : decode cX9_enters 64 = .ok (.ifCond .lt 14, 3) := by decide +kernel
theorem dX9_enters_67 : decode cX9_enters 67 = .ok (.iload 4, 2) := by decide +kernel
theorem dX9_enters_69 : decode cX9_enters 69 = .ok (.aload_n 0, 1) := by decide +kernel
theorem dX9_enters_70 : decode cX9_enters 70 = .ok (.getfield 35, 3) := by decide +kernel
theorem dX9_enters_73 : decode cX9_enters 73 = .ok (.iload_n 2, 1) := by decide +kernel
theorem dX9_enters_74 : decode cX9_enters 74 = .ok (.iaload, 1) := by decide +kernel
theorem dX9_enters_75 : decode cX9_enters 75 = .ok (.if_icmp .ge 8, 3) := by decide +kernel
theorem dX9_enters_78 : decode cX9_enters 78 = .ok (.iload 4, 2) := by decide +kernel
theorem dX9_enters_80 : decode cX9_enters 80 = .ok (.goto 9, 3) := by decide +kernel
theorem dX9_enters_83 : decode cX9_enters 83 = .ok (.aload_n 0, 1) := by decide +kernel
theorem dX9_enters_84 : decode cX9_enters 84 = .ok (.getfield 35, 3) := by decide +kernel
theorem dX9_enters_87 : decode cX9_enters 87 = .ok (.iload_n 2, 1) := by decide +kernel
theorem dX9_enters_88 : decode cX9_enters 88 = .ok (.iaload, 1) := by decide +kernel
theorem dX9_enters_89 : decode cX9_enters 89 = .ok (.iastore, 1) := by decide +kernel
theorem dX9_enters_90 : decode cX9_enters 90 = .ok (.return_, 1) := by decide +kernel
theorem dX9_quietest_0 : decode cX9_quietest 0 = .ok (.aload_n 0, 1) := by decide +kernel
theorem dX9_quietest_1 : decode cX9_quietest 1 = .ok (.iload_n 1, 1) := by decide +kernel
theorem dX9_quietest_2 : decode cX9_quietest 2 = .ok (.invokevirtual 202, 3) := by decide +kernel
theorem dX9_quietest_5 : decode cX9_quietest 5 = .ok (.ifCond .ne 6, 3) := by decide +kernel
theorem dX9_quietest_8 : decode cX9_quietest 8 = .ok (.ldc 205, 2) := by decide +kernel
theorem dX9_quietest_10 : decode cX9_quietest 10 = .ok (.ireturn, 1) := by decide +kernel
theorem dX9_quietest_11 : decode cX9_quietest 11 = .ok (.iconst 0, 1) := by decide +kernel
theorem dX9_quietest_12 : decode cX9_quietest 12 = .ok (.istore_n 2, 1) := by decide +kernel
theorem dX9_quietest_13 : decode cX9_quietest 13 = .ok (.iload_n 2, 1) := by decide +kernel
theorem dX9_quietest_14 : decode cX9_quietest 14 = .ok (.bipush 8, 2) := by decide +kernel
theorem dX9_quietest_16 : decode cX9_quietest 16 = .ok (.if_icmp .ge 29, 3) := by decide +kernel
theorem dX9_quietest_19 : decode cX9_quietest 19 = .ok (.aload_n 0, 1) := by decide +kernel
theorem dX9_quietest_20 : decode cX9_quietest 20 = .ok (.getfield 35, 3) := by decide +kernel
theorem dX9_quietest_23 : decode cX9_quietest 23 = .ok (.iload_n 2, 1) := by decide +kernel
theorem dX9_quietest_24 : decode cX9_quietest 24 = .ok (.iload_n 2, 1) := by decide +kernel
theorem dX9_quietest_25 : decode cX9_quietest 25 = .ok (.aload_n 0, 1) := by decide +kernel
theorem dX9_quietest_26 : decode cX9_quietest 26 = .ok (.iconst 2, 1) := by decide +kernel
theorem dX9_quietest_27 : decode cX9_quietest 27 = .ok (.invokevirtual 97, 3) := by decide +kernel
theorem dX9_quietest_30 : decode cX9_quietest 30 = .ok (.if_icmp .ne 7, 3) := by decide +kernel
theorem dX9_quietest_33 : decode cX9_quietest 33 = .ok (.iconst 0, 1) := by decide +kernel
theorem dX9_quietest_34 : decode cX9_quietest 34 = .ok (.goto 4, 3) := by decide +kernel
theorem dX9_quietest_37 : decode cX9_quietest 37 = .ok (.iconst (-1), 1) := by decide +kernel
theorem dX9_quietest_38 : decode cX9_quietest 38 = .ok (.iastore, 1) := by decide +kernel
theorem dX9_quietest_39 : decode cX9_quietest 39 = .ok (.iinc 2 1, 3) := by decide +kernel
theorem dX9_quietest_42 : decode cX9_quietest 42 = .ok (.goto (-29), 3) := by decide +kernel
theorem dX9_quietest_45 : decode cX9_quietest 45 = .ok (.iconst 0, 1) := by decide +kernel
theorem dX9_quietest_46 : decode cX9_quietest 46 = .ok (.istore_n 2, 1) := by decide +kernel
theorem dX9_quietest_47 : decode cX9_quietest 47 = .ok (.iload_n 2, 1) := by decide +kernel
theorem dX9_quietest_48 : decode cX9_quietest 48 = .ok (.aload_n 0, 1) := by decide +kernel
theorem dX9_quietest_49 : decode cX9_quietest 49 = .ok (.getfield 64, 3) := by decide +kernel
theorem dX9_quietest_52 : decode cX9_quietest 52 = .ok (.if_icmp .ge 59, 3) := by decide +kernel
theorem dX9_quietest_55 : decode cX9_quietest 55 = .ok (.iconst 0, 1) := by decide +kernel
theorem dX9_quietest_56 : decode cX9_quietest 56 = .ok (.istore_n 3, 1) := by decide +kernel
theorem dX9_quietest_57 : decode cX9_quietest 57 = .ok (.iload_n 3, 1) := by decide +kernel
theorem dX9_quietest_58 : decode cX9_quietest 58 = .ok (.aload_n 0, 1) := by decide +kernel
theorem dX9_quietest_59 : decode cX9_quietest 59 = .ok (.getfield 71, 3) := by decide +kernel
theorem dX9_quietest_62 : decode cX9_quietest 62 = .ok (.if_icmp .ge 43, 3) := by decide +kernel
theorem dX9_quietest_65 : decode cX9_quietest 65 = .ok (.aload_n 0, 1) := by decide +kernel
theorem dX9_quietest_66 : decode cX9_quietest 66 = .ok (.aload_n 0, 1) := by decide +kernel
theorem dX9_quietest_67 : decode cX9_quietest 67 = .ok (.getfield 7, 3) := by decide +kernel
theorem dX9_quietest_70 : decode cX9_quietest 70 = .ok (.iload_n 3, 1) := by decide +kernel
theorem dX9_quietest_71 : decode cX9_quietest 71 = .ok (.iaload, 1) := by decide +kernel
theorem dX9_quietest_72 : decode cX9_quietest 72 = .ok (.aload_n 0, 1) := by decide +kernel
theorem dX9_quietest_73 : decode cX9_quietest 73 = .ok (.getfield 13, 3) := by decide +kernel
theorem dX9_quietest_76 : decode cX9_quietest 76 = .ok (.iload_n 3, 1) := by decide +kernel
theorem dX9_quietest_77 : decode cX9_quietest 77 = .ok (.iaload, 1) := by decide +kernel
theorem dX9_quietest_78 : decode cX9_quietest 78 = .ok (.iload_n 3, 1) := by decide +kernel
theorem dX9_quietest_79 : decode cX9_quietest 79 = .ok (.invokevirtual 278, 3) := by decide +kernel
theorem dX9_quietest_82 : decode cX9_quietest 82 = .ok (.aload_n 0, 1) := by decide +kernel
theorem dX9_quietest_83 : decode cX9_quietest 83 = .ok (.aload_n 0, 1) := by decide +kernel
theorem dX9_quietest_84 : decode cX9_quietest 84 = .ok (.getfield 13, 3) := by decide +kernel
theorem dX9_quietest_87 : decode cX9_quietest 87 = .ok (.iload_n 3, 1) := by decide +kernel
theorem dX9_quietest_88 : decode cX9_quietest 88 = .ok (.iaload, 1) := by decide +kernel
theorem dX9_quietest_89 : decode cX9_quietest 89 = .ok (.aload_n 0, 1) := by decide +kernel
theorem dX9_quietest_90 : decode cX9_quietest 90 = .ok (.getfield 7, 3) := by decide +kernel
theorem dX9_quietest_93 : decode cX9_quietest 93 = .ok (.iload_n 3, 1) := by decide +kernel
theorem dX9_quietest_94 : decode cX9_quietest 94 = .ok (.iaload, 1) := by decide +kernel
theorem dX9_quietest_95 : decode cX9_quietest 95 = .ok (.iload_n 3, 1) := by decide +kernel
theorem dX9_quietest_96 : decode cX9_quietest 96 = .ok (.invokevirtual 278, 3) := by decide +kernel
theorem dX9_quietest_99 : decode cX9_quietest 99 = .ok (.iinc 3 1, 3) := by decide +kernel
theorem dX9_quietest_102 : decode cX9_quietest 102 = .ok (.goto (-45), 3) := by decide +kernel
theorem dX9_quietest_105 : decode cX9_quietest 105 = .ok (.iinc 2 1, 3) := by decide +kernel
theorem dX9_quietest_108 : decode cX9_quietest 108 = .ok (.goto (-61), 3) := by decide +kernel
theorem dX9_quietest_111 : decode cX9_quietest 111 = .ok (.aload_n 0, 1) := by decide +kernel
theorem dX9_quietest_112 : decode cX9_quietest 112 = .ok (.getfield 35, 3) := by decide +kernel
theorem dX9_quietest_115 : decode cX9_quietest 115 = .ok (.iload_n 1, 1) := by decide +kernel
theorem dX9_quietest_116 : decode cX9_quietest 116 = .ok (.iaload, 1) := by decide +kernel
theorem dX9_quietest_117 : decode cX9_quietest 117 = .ok (.ireturn, 1) := by decide +kernel
theorem dX9_stand_0 : decode cX9_stand 0 = .ok (.aload_n 0, 1) := by decide +kernel
theorem dX9_stand_1 : decode cX9_stand 1 = .ok (.getfield 64, 3) := by decide +kernel
theorem dX9_stand_4 : decode cX9_stand 4 = .ok (.ifCond .ne 6, 3) := by decide +kernel
theorem dX9_stand_7 : decode cX9_stand 7 = .ok (.ldc 220, 2) := by decide +kernel
theorem dX9_stand_9 : decode cX9_stand 9 = .ok (.ireturn, 1) := by decide +kernel
theorem dX9_stand_10 : decode cX9_stand 10 = .ok (.aload_n 0, 1) := by decide +kernel
theorem dX9_stand_11 : decode cX9_stand 11 = .ok (.invokevirtual 261, 3) := by decide +kernel
theorem dX9_stand_14 : decode cX9_stand 14 = .ok (.iconst (-1), 1) := by decide +kernel
theorem dX9_stand_15 : decode cX9_stand 15 = .ok (.istore_n 1, 1) := by decide +kernel
theorem dX9_stand_16 : decode cX9_stand 16 = .ok (.iconst 1, 1) := by decide +kernel
theorem dX9_stand_17 : decode cX9_stand 17 = .ok (.istore_n 2, 1) := by decide +kernel
theorem dX9_stand_18 : decode cX9_stand 18 = .ok (.iload_n 2, 1) := by decide +kernel
theorem dX9_stand_19 : decode cX9_stand 19 = .ok (.bipush 100, 2) := by decide +kernel
theorem dX9_stand_21 : decode cX9_stand 21 = .ok (.if_icmp .ge 44, 3) := by decide +kernel
theorem dX9_stand_24 : decode cX9_stand 24 = .ok (.iload_n 1, 1) := by decide +kernel
theorem dX9_stand_25 : decode cX9_stand 25 = .ok (.iconst (-1), 1) := by decide +kernel
theorem dX9_stand_26 : decode cX9_stand 26 = .ok (.if_icmp .ne 39, 3) := by decide +kernel
theorem dX9_stand_29 : decode cX9_stand 29 = .ok (.aload_n 0, 1) := by decide +kernel
theorem dX9_stand_30 : decode cX9_stand 30 = .ok (.invokevirtual 137, 3) := by decide +kernel
theorem dX9_stand_33 : decode cX9_stand 33 = .ok (.aload_n 0, 1) := by decide +kernel
theorem dX9_stand_34 : decode cX9_stand 34 = .ok (.getfield 19, 3) := by decide +kernel
theorem dX9_stand_37 : decode cX9_stand 37 = .ok (.iconst 2, 1) := by decide +kernel
theorem dX9_stand_38 : decode cX9_stand 38 = .ok (.laload, 1) := by decide +kernel
theorem dX9_stand_39 : decode cX9_stand 39 = .ok (.aload_n 0, 1) := by decide +kernel
theorem dX9_stand_40 : decode cX9_stand 40 = .ok (.getfield 32, 3) := by decide +kernel
theorem dX9_stand_43 : decode cX9_stand 43 = .ok (.iconst 2, 1) := by decide +kernel
theorem dX9_stand_44 : decode cX9_stand 44 = .ok (.laload, 1) := by decide +kernel
theorem dX9_stand_45 : decode cX9_stand 45 = .ok (.lcmp, 1) := by decide +kernel
theorem dX9_stand_46 : decode cX9_stand 46 = .ok (.ifCond .ne 7, 3) := by decide +kernel
theorem dX9_stand_49 : decode cX9_stand 49 = .ok (.iconst (-1), 1) := by decide +kernel
theorem dX9_stand_50 : decode cX9_stand 50 = .ok (.goto 8, 3) := by decide +kernel
theorem dX9_stand_53 : decode cX9_stand 53 = .ok (.aload_n 0, 1) := by decide +kernel
theorem dX9_stand_54 : decode cX9_stand 54 = .ok (.iconst 2, 1) := by decide +kernel
theorem dX9_stand_55 : decode cX9_stand 55 = .ok (.invokevirtual 97, 3) := by decide +kernel
theorem dX9_stand_58 : decode cX9_stand 58 = .ok (.istore_n 1, 1) := by decide +kernel
theorem dX9_stand_59 : decode cX9_stand 59 = .ok (.iinc 2 1, 3) := by decide +kernel
theorem dX9_stand_62 : decode cX9_stand 62 = .ok (.goto (-44), 3) := by decide +kernel
theorem dX9_stand_65 : decode cX9_stand 65 = .ok (.aload_n 0, 1) := by decide +kernel
theorem dX9_stand_66 : decode cX9_stand 66 = .ok (.invokevirtual 264, 3) := by decide +kernel
theorem dX9_stand_69 : decode cX9_stand 69 = .ok (.iload_n 1, 1) := by decide +kernel
theorem dX9_stand_70 : decode cX9_stand 70 = .ok (.ireturn, 1) := by decide +kernel
theorem dX9_willHear_0 : decode cX9_willHear 0 = .ok (.iload_n 1, 1) := by decide +kernel
theorem dX9_willHear_1 : decode cX9_willHear 1 = .ok (.i2l, 1) := by decide +kernel
theorem dX9_willHear_2 : decode cX9_willHear 2 = .ok (.lconst 1, 1) := by decide +kernel
theorem dX9_willHear_3 : decode cX9_willHear 3 = .ok (.ldc2_w 259, 3) := by decide +kernel
theorem dX9_willHear_6 : decode cX9_willHear 6 = .ok (.invokestatic 67, 3) := by decide +kernel
theorem dX9_willHear_9 : decode cX9_willHear 9 = .ok (.ifCond .ne 6, 3) := by decide +kernel
theorem dX9_willHear_12 : decode cX9_willHear 12 = .ok (.ldc 142, 2) := by decide +kernel
theorem dX9_willHear_14 : decode cX9_willHear 14 = .ok (.ireturn, 1) := by decide +kernel
theorem dX9_willHear_15 : decode cX9_willHear 15 = .ok (.aload_n 0, 1) := by decide +kernel
theorem dX9_willHear_16 : decode cX9_willHear 16 = .ok (.getfield 64, 3) := by decide +kernel
theorem dX9_willHear_19 : decode cX9_willHear 19 = .ok (.ifCond .ne 6, 3) := by decide +kernel
theorem dX9_willHear_22 : decode cX9_willHear 22 = .ok (.ldc 220, 2) := by decide +kernel
theorem dX9_willHear_24 : decode cX9_willHear 24 = .ok (.ireturn, 1) := by decide +kernel
theorem dX9_willHear_25 : decode cX9_willHear 25 = .ok (.aload_n 0, 1) := by decide +kernel
theorem dX9_willHear_26 : decode cX9_willHear 26 = .ok (.invokevirtual 261, 3) := by decide +kernel
theorem dX9_willHear_29 : decode cX9_willHear 29 = .ok (.aload_n 0, 1) := by decide +kernel
theorem dX9_willHear_30 : decode cX9_willHear 30 = .ok (.iload_n 1, 1) := by decide +kernel
theorem dX9_willHear_31 : decode cX9_willHear 31 = .ok (.invokevirtual 226, 3) := by decide +kernel
theorem dX9_willHear_34 : decode cX9_willHear 34 = .ok (.iconst 0, 1) := by decide +kernel
theorem dX9_willHear_35 : decode cX9_willHear 35 = .ok (.istore_n 2, 1) := by decide +kernel
theorem dX9_willHear_36 : decode cX9_willHear 36 = .ok (.iconst 0, 1) := by decide +kernel
theorem dX9_willHear_37 : decode cX9_willHear 37 = .ok (.istore_n 3, 1) := by decide +kernel
theorem dX9_willHear_38 : decode cX9_willHear 38 = .ok (.iload_n 3, 1) := by decide +kernel
theorem dX9_willHear_39 : decode cX9_willHear 39 = .ok (.aload_n 0, 1) := by decide +kernel
theorem dX9_willHear_40 : decode cX9_willHear 40 = .ok (.getfield 74, 3) := by decide +kernel
theorem dX9_willHear_43 : decode cX9_willHear 43 = .ok (.if_icmp .ge 50, 3) := by decide +kernel
theorem dX9_willHear_46 : decode cX9_willHear 46 = .ok (.iload_n 2, 1) := by decide +kernel
theorem dX9_willHear_47 : decode cX9_willHear 47 = .ok (.aload_n 0, 1) := by decide +kernel
theorem dX9_willHear_48 : decode cX9_willHear 48 = .ok (.getfield 19, 3) := by decide +kernel
theorem dX9_willHear_51 : decode cX9_willHear 51 = .ok (.bipush 7, 2) := by decide +kernel
theorem dX9_willHear_53 : decode cX9_willHear 53 = .ok (.laload, 1) := by decide +kernel
theorem dX9_willHear_54 : decode cX9_willHear 54 = .ok (.iload_n 3, 1) := by decide +kernel
theorem dX9_willHear_55 : decode cX9_willHear 55 = .ok (.invokestatic 85, 3) := by decide +kernel
theorem dX9_willHear_58 : decode cX9_willHear 58 = .ok (.ifCond .eq 26, 3) := by decide +kernel
theorem dX9_willHear_61 : decode cX9_willHear 61 = .ok (.aload_n 0, 1) := by decide +kernel
theorem dX9_willHear_62 : decode cX9_willHear 62 = .ok (.getfield 32, 3) := by decide +kernel
theorem dX9_willHear_65 : decode cX9_willHear 65 = .ok (.bipush 7, 2) := by decide +kernel
theorem dX9_willHear_67 : decode cX9_willHear 67 = .ok (.laload, 1) := by decide +kernel
theorem dX9_willHear_68 : decode cX9_willHear 68 = .ok (.iload_n 3, 1) := by decide +kernel
theorem dX9_willHear_69 : decode cX9_willHear 69 = .ok (.invokestatic 85, 3) := by decide +kernel
theorem dX9_willHear_72 : decode cX9_willHear 72 = .ok (.ifCond .ne 12, 3) := by decide +kernel
theorem dX9_willHear_75 : decode cX9_willHear 75 = .ok (.aload_n 0, 1) := by decide +kernel
theorem dX9_willHear_76 : decode cX9_willHear 76 = .ok (.getfield 16, 3) := by decide +kernel
theorem dX9_willHear_79 : decode cX9_willHear 79 = .ok (.iload_n 3, 1) := by decide +kernel
theorem dX9_willHear_80 : decode cX9_willHear 80 = .ok (.iaload, 1) := by decide +kernel
theorem dX9_willHear_81 : decode cX9_willHear 81 = .ok (.goto 4, 3) := by decide +kernel
theorem dX9_willHear_84 : decode cX9_willHear 84 = .ok (.iconst 0, 1) := by decide +kernel
theorem dX9_willHear_85 : decode cX9_willHear 85 = .ok (.iadd, 1) := by decide +kernel
theorem dX9_willHear_86 : decode cX9_willHear 86 = .ok (.istore_n 2, 1) := by decide +kernel
theorem dX9_willHear_87 : decode cX9_willHear 87 = .ok (.iinc 3 1, 3) := by decide +kernel
theorem dX9_willHear_90 : decode cX9_willHear 90 = .ok (.goto (-52), 3) := by decide +kernel
theorem dX9_willHear_93 : decode cX9_willHear 93 = .ok (.aload_n 0, 1) := by decide +kernel
theorem dX9_willHear_94 : decode cX9_willHear 94 = .ok (.invokevirtual 264, 3) := by decide +kernel
theorem dX9_willHear_97 : decode cX9_willHear 97 = .ok (.iload_n 2, 1) := by decide +kernel
theorem dX9_willHear_98 : decode cX9_willHear 98 = .ok (.ireturn, 1) := by decide +kernel
theorem dX9_dance_0 : decode cX9_dance 0 = .ok (.iload_n 1, 1) := by decide +kernel
theorem dX9_dance_1 : decode cX9_dance 1 = .ok (.i2l, 1) := by decide +kernel
theorem dX9_dance_2 : decode cX9_dance 2 = .ok (.lconst 0, 1) := by decide +kernel
theorem dX9_dance_3 : decode cX9_dance 3 = .ok (.ldc2_w 218, 3) := by decide +kernel
theorem dX9_dance_6 : decode cX9_dance 6 = .ok (.invokestatic 67, 3) := by decide +kernel
theorem dX9_dance_9 : decode cX9_dance 9 = .ok (.ifCond .eq 15, 3) := by decide +kernel
theorem dX9_dance_12 : decode cX9_dance 12 = .ok (.iload_n 2, 1) := by decide +kernel
theorem dX9_dance_13 : decode cX9_dance 13 = .ok (.i2l, 1) := by decide +kernel
theorem dX9_dance_14 : decode cX9_dance 14 = .ok (.lconst 0, 1) := by decide +kernel
theorem dX9_dance_15 : decode cX9_dance 15 = .ok (.ldc2_w 259, 3) := by decide +kernel
theorem dX9_dance_18 : decode cX9_dance 18 = .ok (.invokestatic 67, 3) := by decide +kernel
theorem dX9_dance_21 : decode cX9_dance 21 = .ok (.ifCond .ne 6, 3) := by decide +kernel
theorem dX9_dance_24 : decode cX9_dance 24 = .ok (.ldc 142, 2) := by decide +kernel
theorem dX9_dance_26 : decode cX9_dance 26 = .ok (.ireturn, 1) := by decide +kernel
theorem dX9_dance_27 : decode cX9_dance 27 = .ok (.ldc2_w 282, 3) := by decide +kernel
theorem dX9_dance_30 : decode cX9_dance 30 = .ok (.lstore_n 3, 1) := by decide +kernel
theorem dX9_dance_31 : decode cX9_dance 31 = .ok (.iconst 0, 1) := by decide +kernel
theorem dX9_dance_32 : decode cX9_dance 32 = .ok (.istore 5, 2) := by decide +kernel
theorem dX9_dance_34 : decode cX9_dance 34 = .ok (.iload 5, 2) := by decide +kernel
theorem dX9_dance_36 : decode cX9_dance 36 = .ok (.iload_n 1, 1) := by decide +kernel
theorem dX9_dance_37 : decode cX9_dance 37 = .ok (.if_icmp .ge 21, 3) := by decide +kernel
theorem dX9_dance_40 : decode cX9_dance 40 = .ok (.lload_n 3, 1) := by decide +kernel
theorem dX9_dance_41 : decode cX9_dance 41 = .ok (.bipush 100, 2) := by decide +kernel
theorem dX9_dance_43 : decode cX9_dance 43 = .ok (.iload_n 2, 1) := by decide +kernel
theorem dX9_dance_44 : decode cX9_dance 44 = .ok (.isub, 1) := by decide +kernel
theorem dX9_dance_45 : decode cX9_dance 45 = .ok (.i2l, 1) := by decide +kernel
theorem dX9_dance_46 : decode cX9_dance 46 = .ok (.lmul, 1) := by decide +kernel
theorem dX9_dance_47 : decode cX9_dance 47 = .ok (.ldc2_w 259, 3) := by decide +kernel
theorem dX9_dance_50 : decode cX9_dance 50 = .ok (.ldiv, 1) := by decide +kernel
theorem dX9_dance_51 : decode cX9_dance 51 = .ok (.lstore_n 3, 1) := by decide +kernel
theorem dX9_dance_52 : decode cX9_dance 52 = .ok (.iinc 5 1, 3) := by decide +kernel
theorem dX9_dance_55 : decode cX9_dance 55 = .ok (.goto (-21), 3) := by decide +kernel
theorem dX9_dance_58 : decode cX9_dance 58 = .ok (.lload_n 3, 1) := by decide +kernel
theorem dX9_dance_59 : decode cX9_dance 59 = .ok (.l2i, 1) := by decide +kernel
theorem dX9_dance_60 : decode cX9_dance 60 = .ok (.ireturn, 1) := by decide +kernel
theorem dX9_isFit_0 : decode cX9_isFit 0 = .ok (.iconst 1, 1) := by decide +kernel
theorem dX9_isFit_1 : decode cX9_isFit 1 = .ok (.istore_n 2, 1) := by decide +kernel
theorem dX9_isFit_2 : decode cX9_isFit 2 = .ok (.iconst 0, 1) := by decide +kernel
theorem dX9_isFit_3 : decode cX9_isFit 3 = .ok (.istore_n 3, 1) := by decide +kernel
theorem dX9_isFit_4 : decode cX9_isFit 4 = .ok (.iload_n 3, 1) := by decide +kernel
theorem dX9_isFit_5 : decode cX9_isFit 5 = .ok (.aload_n 0, 1) := by decide +kernel
theorem dX9_isFit_6 : decode cX9_isFit 6 = .ok (.bipush 9, 2) := by decide +kernel
theorem dX9_isFit_8 : decode cX9_isFit 8 = .ok (.invokevirtual 97, 3) := by decide +kernel
theorem dX9_isFit_11 : decode cX9_isFit 11 = .ok (.if_icmp .ge 110, 3) := by decide +kernel
theorem dX9_isFit_14 : decode cX9_isFit 14 = .ok (.iload_n 2, 1) := by decide +kernel
theorem dX9_isFit_15 : decode cX9_isFit 15 = .ok (.ifCond .eq 106, 3) := by decide +kernel
theorem dX9_isFit_18 : decode cX9_isFit 18 = .ok (.aload_n 0, 1) := by decide +kernel
theorem dX9_isFit_19 : decode cX9_isFit 19 = .ok (.getfield 19, 3) := by decide +kernel
theorem dX9_isFit_22 : decode cX9_isFit 22 = .ok (.bipush 32, 2) := by decide +kernel
theorem dX9_isFit_24 : decode cX9_isFit 24 = .ok (.iconst 3, 1) := by decide +kernel
theorem dX9_isFit_25 : decode cX9_isFit 25 = .ok (.iload_n 3, 1) := by decide +kernel
theorem dX9_isFit_26 : decode cX9_isFit 26 = .ok (.imul, 1) := by decide +kernel
theorem dX9_isFit_27 : decode cX9_isFit 27 = .ok (.iadd, 1) := by decide +kernel
theorem dX9_isFit_28 : decode cX9_isFit 28 = .ok (.laload, 1) := by decide +kernel
theorem dX9_isFit_29 : decode cX9_isFit 29 = .ok (.lstore 4, 2) := by decide +kernel
theorem dX9_isFit_31 : decode cX9_isFit 31 = .ok (.aload_n 0, 1) := by decide +kernel
theorem dX9_isFit_32 : decode cX9_isFit 32 = .ok (.iload_n 1, 1) := by decide +kernel
theorem dX9_isFit_33 : decode cX9_isFit 33 = .ok (.aload_n 0, 1) := by decide +kernel
theorem dX9_isFit_34 : decode cX9_isFit 34 = .ok (.iload_n 3, 1) := by decide +kernel
theorem dX9_isFit_35 : decode cX9_isFit 35 = .ok (.invokevirtual 212, 3) := by decide +kernel
theorem dX9_isFit_38 : decode cX9_isFit 38 = .ok (.lload 4, 2) := by decide +kernel
theorem dX9_isFit_40 : decode cX9_isFit 40 = .ok (.bipush 6, 2) := by decide +kernel
theorem dX9_isFit_42 : decode cX9_isFit 42 = .ok (.lshr, 1) := by decide +kernel
theorem dX9_isFit_43 : decode cX9_isFit 43 = .ok (.ldc2_w 140, 3) := by decide +kernel
theorem dX9_isFit_46 : decode cX9_isFit 46 = .ok (.land, 1) := by decide +kernel
theorem dX9_isFit_47 : decode cX9_isFit 47 = .ok (.lload 4, 2) := by decide +kernel
theorem dX9_isFit_49 : decode cX9_isFit 49 = .ok (.bipush 14, 2) := by decide +kernel
theorem dX9_isFit_51 : decode cX9_isFit 51 = .ok (.lshr, 1) := by decide +kernel
theorem dX9_isFit_52 : decode cX9_isFit 52 = .ok (.ldc2_w 140, 3) := by decide +kernel
theorem dX9_isFit_55 : decode cX9_isFit 55 = .ok (.land, 1) := by decide +kernel
theorem dX9_isFit_56 : decode cX9_isFit 56 = .ok (.lload 4, 2) := by decide +kernel
theorem dX9_isFit_58 : decode cX9_isFit 58 = .ok (.bipush 22, 2) := by decide +kernel
theorem dX9_isFit_60 : decode cX9_isFit 60 = .ok (.lshr, 1) := by decide +kernel
theorem dX9_isFit_61 : decode cX9_isFit 61 = .ok (.ldc2_w 284, 3) := by decide +kernel
theorem dX9_isFit_64 : decode cX9_isFit 64 = .ok (.land, 1) := by decide +kernel
theorem dX9_isFit_65 : decode cX9_isFit 65 = .ok (.aload_n 0, 1) := by decide +kernel
theorem dX9_isFit_66 : decode cX9_isFit 66 = .ok (.getfield 19, 3) := by decide +kernel
theorem dX9_isFit_69 : decode cX9_isFit 69 = .ok (.bipush 32, 2) := by decide +kernel
theorem dX9_isFit_71 : decode cX9_isFit 71 = .ok (.iconst 3, 1) := by decide +kernel
theorem dX9_isFit_72 : decode cX9_isFit 72 = .ok (.iload_n 3, 1) := by decide +kernel
theorem dX9_isFit_73 : decode cX9_isFit 73 = .ok (.imul, 1) := by decide +kernel
theorem dX9_isFit_74 : decode cX9_isFit 74 = .ok (.iadd, 1) := by decide +kernel
theorem dX9_isFit_75 : decode cX9_isFit 75 = .ok (.iconst 1, 1) := by decide +kernel
theorem dX9_isFit_76 : decode cX9_isFit 76 = .ok (.iadd, 1) := by decide +kernel
theorem dX9_isFit_77 : decode cX9_isFit 77 = .ok (.laload, 1) := by decide +kernel
theorem dX9_isFit_78 : decode cX9_isFit 78 = .ok (.aload_n 0, 1) := by decide +kernel
theorem dX9_isFit_79 : decode cX9_isFit 79 = .ok (.getfield 19, 3) := by decide +kernel
theorem dX9_isFit_82 : decode cX9_isFit 82 = .ok (.bipush 32, 2) := by decide +kernel
theorem dX9_isFit_84 : decode cX9_isFit 84 = .ok (.iconst 3, 1) := by decide +kernel
theorem dX9_isFit_85 : decode cX9_isFit 85 = .ok (.iload_n 3, 1) := by decide +kernel
theorem dX9_isFit_86 : decode cX9_isFit 86 = .ok (.imul, 1) := by decide +kernel
theorem dX9_isFit_87 : decode cX9_isFit 87 = .ok (.iadd, 1) := by decide +kernel
theorem dX9_isFit_88 : decode cX9_isFit 88 = .ok (.iconst 2, 1) := by decide +kernel
theorem dX9_isFit_89 : decode cX9_isFit 89 = .ok (.iadd, 1) := by decide +kernel
theorem dX9_isFit_90 : decode cX9_isFit 90 = .ok (.laload, 1) := by decide +kernel
theorem dX9_isFit_91 : decode cX9_isFit 91 = .ok (.lload 4, 2) := by decide +kernel
theorem dX9_isFit_93 : decode cX9_isFit 93 = .ok (.bipush 34, 2) := by decide +kernel
theorem dX9_isFit_95 : decode cX9_isFit 95 = .ok (.invokestatic 85, 3) := by decide +kernel
theorem dX9_isFit_98 : decode cX9_isFit 98 = .ok (.invokevirtual 112, 3) := by decide +kernel
theorem dX9_isFit_101 : decode cX9_isFit 101 = .ok (.aload_n 0, 1) := by decide +kernel
theorem dX9_isFit_102 : decode cX9_isFit 102 = .ok (.iload_n 3, 1) := by decide +kernel
theorem dX9_isFit_103 : decode cX9_isFit 103 = .ok (.invokevirtual 215, 3) := by decide +kernel
theorem dX9_isFit_106 : decode cX9_isFit 106 = .ok (.if_icmp .ne 7, 3) := by decide +kernel
theorem dX9_isFit_109 : decode cX9_isFit 109 = .ok (.iconst 1, 1) := by decide +kernel
theorem dX9_isFit_110 : decode cX9_isFit 110 = .ok (.goto 4, 3) := by decide +kernel
theorem dX9_isFit_113 : decode cX9_isFit 113 = .ok (.iconst 0, 1) := by decide +kernel
theorem dX9_isFit_114 : decode cX9_isFit 114 = .ok (.istore_n 2, 1) := by decide +kernel
theorem dX9_isFit_115 : decode cX9_isFit 115 = .ok (.iinc 3 1, 3) := by decide +kernel
theorem dX9_isFit_118 : decode cX9_isFit 118 = .ok (.goto (-114), 3) := by decide +kernel
theorem dX9_isFit_121 : decode cX9_isFit 121 = .ok (.iload_n 2, 1) := by decide +kernel
theorem dX9_isFit_122 : decode cX9_isFit 122 = .ok (.ireturn, 1) := by decide +kernel
theorem dX9_fit_0 : decode cX9_fit 0 = .ok (.iconst 0, 1) := by decide +kernel
theorem dX9_fit_1 : decode cX9_fit 1 = .ok (.istore_n 2, 1) := by decide +kernel
theorem dX9_fit_2 : decode cX9_fit 2 = .ok (.iconst (-1), 1) := by decide +kernel
theorem dX9_fit_3 : decode cX9_fit 3 = .ok (.istore_n 3, 1) := by decide +kernel
theorem dX9_fit_4 : decode cX9_fit 4 = .ok (.iconst 0, 1) := by decide +kernel
theorem dX9_fit_5 : decode cX9_fit 5 = .ok (.istore 4, 2) := by decide +kernel
theorem dX9_fit_7 : decode cX9_fit 7 = .ok (.iload 4, 2) := by decide +kernel
theorem dX9_fit_9 : decode cX9_fit 9 = .ok (.bipush 64, 2) := by decide +kernel
theorem dX9_fit_11 : decode cX9_fit 11 = .ok (.if_icmp .ge 33, 3) := by decide +kernel
theorem dX9_fit_14 : decode cX9_fit 14 = .ok (.aload_n 0, 1) := by decide +kernel
theorem dX9_fit_15 : decode cX9_fit 15 = .ok (.iload 4, 2) := by decide +kernel
theorem dX9_fit_17 : decode cX9_fit 17 = .ok (.invokevirtual 286, 3) := by decide +kernel
theorem dX9_fit_20 : decode cX9_fit 20 = .ok (.ifCond .eq 18, 3) := by decide +kernel
theorem dX9_fit_23 : decode cX9_fit 23 = .ok (.iload_n 2, 1) := by decide +kernel
theorem dX9_fit_24 : decode cX9_fit 24 = .ok (.iload_n 1, 1) := by decide +kernel
theorem dX9_fit_25 : decode cX9_fit 25 = .ok (.if_icmp .ne 8, 3) := by decide +kernel
theorem dX9_fit_28 : decode cX9_fit 28 = .ok (.iload 4, 2) := by decide +kernel
theorem dX9_fit_30 : decode cX9_fit 30 = .ok (.goto 4, 3) := by decide +kernel
theorem dX9_fit_33 : decode cX9_fit 33 = .ok (.iload_n 3, 1) := by decide +kernel
theorem dX9_fit_34 : decode cX9_fit 34 = .ok (.istore_n 3, 1) := by decide +kernel
theorem dX9_fit_35 : decode cX9_fit 35 = .ok (.iinc 2 1, 3) := by decide +kernel
theorem dX9_fit_38 : decode cX9_fit 38 = .ok (.iinc 4 1, 3) := by decide +kernel
theorem dX9_fit_41 : decode cX9_fit 41 = .ok (.goto (-34), 3) := by decide +kernel
theorem dX9_fit_44 : decode cX9_fit 44 = .ok (.iload_n 1, 1) := by decide +kernel
theorem dX9_fit_45 : decode cX9_fit 45 = .ok (.iconst (-1), 1) := by decide +kernel
theorem dX9_fit_46 : decode cX9_fit 46 = .ok (.if_icmp .ne 7, 3) := by decide +kernel
theorem dX9_fit_49 : decode cX9_fit 49 = .ok (.iload_n 2, 1) := by decide +kernel
theorem dX9_fit_50 : decode cX9_fit 50 = .ok (.goto 4, 3) := by decide +kernel
theorem dX9_fit_53 : decode cX9_fit 53 = .ok (.iload_n 3, 1) := by decide +kernel
theorem dX9_fit_54 : decode cX9_fit 54 = .ok (.ireturn, 1) := by decide +kernel
theorem dX9_tells_0 : decode cX9_tells 0 = .ok (.iconst 0, 1) := by decide +kernel
theorem dX9_tells_1 : decode cX9_tells 1 = .ok (.istore_n 1, 1) := by decide +kernel
theorem dX9_tells_2 : decode cX9_tells 2 = .ok (.iconst 0, 1) := by decide +kernel
theorem dX9_tells_3 : decode cX9_tells 3 = .ok (.istore_n 2, 1) := by decide +kernel
theorem dX9_tells_4 : decode cX9_tells 4 = .ok (.iload_n 2, 1) := by decide +kernel
theorem dX9_tells_5 : decode cX9_tells 5 = .ok (.bipush 64, 2) := by decide +kernel
theorem dX9_tells_7 : decode cX9_tells 7 = .ok (.if_icmp .ge 37, 3) := by decide +kernel
theorem dX9_tells_10 : decode cX9_tells 10 = .ok (.aload_n 0, 1) := by decide +kernel
theorem dX9_tells_11 : decode cX9_tells 11 = .ok (.getfield 38, 3) := by decide +kernel
theorem dX9_tells_14 : decode cX9_tells 14 = .ok (.iload_n 2, 1) := by decide +kernel
theorem dX9_tells_15 : decode cX9_tells 15 = .ok (.aload_n 0, 1) := by decide +kernel
theorem dX9_tells_16 : decode cX9_tells 16 = .ok (.iload_n 2, 1) := by decide +kernel
theorem dX9_tells_17 : decode cX9_tells 17 = .ok (.invokevirtual 286, 3) := by decide +kernel
theorem dX9_tells_20 : decode cX9_tells 20 = .ok (.bastore, 1) := by decide +kernel
theorem dX9_tells_21 : decode cX9_tells 21 = .ok (.iload_n 1, 1) := by decide +kernel
theorem dX9_tells_22 : decode cX9_tells 22 = .ok (.aload_n 0, 1) := by decide +kernel
theorem dX9_tells_23 : decode cX9_tells 23 = .ok (.getfield 38, 3) := by decide +kernel
theorem dX9_tells_26 : decode cX9_tells 26 = .ok (.iload_n 2, 1) := by decide +kernel
theorem dX9_tells_27 : decode cX9_tells 27 = .ok (.baload, 1) := by decide +kernel
theorem dX9_tells_28 : decode cX9_tells 28 = .ok (.ifCond .eq 7, 3) := by decide +kernel
theorem dX9_tells_31 : decode cX9_tells 31 = .ok (.iconst 1, 1) := by decide +kernel
theorem dX9_tells_32 : decode cX9_tells 32 = .ok (.goto 4, 3) := by decide +kernel
theorem dX9_tells_35 : decode cX9_tells 35 = .ok (.iconst 0, 1) := by decide +kernel
theorem dX9_tells_36 : decode cX9_tells 36 = .ok (.iadd, 1) := by decide +kernel
theorem dX9_tells_37 : decode cX9_tells 37 = .ok (.istore_n 1, 1) := by decide +kernel
theorem dX9_tells_38 : decode cX9_tells 38 = .ok (.iinc 2 1, 3) := by decide +kernel
theorem dX9_tells_41 : decode cX9_tells 41 = .ok (.goto (-37), 3) := by decide +kernel
theorem dX9_tells_44 : decode cX9_tells 44 = .ok (.iconst (-1), 1) := by decide +kernel
theorem dX9_tells_45 : decode cX9_tells 45 = .ok (.istore_n 2, 1) := by decide +kernel
theorem dX9_tells_46 : decode cX9_tells 46 = .ok (.iload_n 1, 1) := by decide +kernel
theorem dX9_tells_47 : decode cX9_tells 47 = .ok (.istore_n 3, 1) := by decide +kernel
theorem dX9_tells_48 : decode cX9_tells 48 = .ok (.iconst 0, 1) := by decide +kernel
theorem dX9_tells_49 : decode cX9_tells 49 = .ok (.istore 4, 2) := by decide +kernel
theorem dX9_tells_51 : decode cX9_tells 51 = .ok (.iload 4, 2) := by decide +kernel
theorem dX9_tells_53 : decode cX9_tells 53 = .ok (.aload_n 0, 1) := by decide +kernel
theorem dX9_tells_54 : decode cX9_tells 54 = .ok (.getfield 64, 3) := by decide +kernel
theorem dX9_tells_57 : decode cX9_tells 57 = .ok (.if_icmp .ge 144, 3) := by decide +kernel
theorem dX9_tells_60 : decode cX9_tells 60 = .ok (.iconst 0, 1) := by decide +kernel
theorem dX9_tells_61 : decode cX9_tells 61 = .ok (.istore 5, 2) := by decide +kernel
theorem dX9_tells_63 : decode cX9_tells 63 = .ok (.iload 5, 2) := by decide +kernel
theorem dX9_tells_65 : decode cX9_tells 65 = .ok (.bipush 8, 2) := by decide +kernel
theorem dX9_tells_67 : decode cX9_tells 67 = .ok (.if_icmp .ge 17, 3) := by decide +kernel
theorem dX9_tells_70 : decode cX9_tells 70 = .ok (.aload_n 0, 1) := by decide +kernel
theorem dX9_tells_71 : decode cX9_tells 71 = .ok (.getfield 42, 3) := by decide +kernel
theorem dX9_tells_74 : decode cX9_tells 74 = .ok (.iload 5, 2) := by decide +kernel
theorem dX9_tells_76 : decode cX9_tells 76 = .ok (.iconst 0, 1) := by decide +kernel
theorem dX9_tells_77 : decode cX9_tells 77 = .ok (.iastore, 1) := by decide +kernel
theorem dX9_tells_78 : decode cX9_tells 78 = .ok (.iinc 5 1, 3) := by decide +kernel
theorem dX9_tells_81 : decode cX9_tells 81 = .ok (.goto (-18), 3) := by decide +kernel
theorem dX9_tells_84 : decode cX9_tells 84 = .ok (.iconst 0, 1) := by decide +kernel
theorem dX9_tells_85 : decode cX9_tells 85 = .ok (.istore 5, 2) := by decide +kernel
theorem dX9_tells_87 : decode cX9_tells 87 = .ok (.iconst 0, 1) := by decide +kernel
theorem dX9_tells_88 : decode cX9_tells 88 = .ok (.istore 6, 2) := by decide +kernel
theorem dX9_tells_90 : decode cX9_tells 90 = .ok (.iload 6, 2) := by decide +kernel
theorem dX9_tells_92 : decode cX9_tells 92 = .ok (.bipush 64, 2) := by decide +kernel
theorem dX9_tells_94 : decode cX9_tells 94 = .ok (.if_icmp .ge 75, 3) := by decide +kernel
theorem dX9_tells_97 : decode cX9_tells 97 = .ok (.aload_n 0, 1) := by decide +kernel
theorem dX9_tells_98 : decode cX9_tells 98 = .ok (.getfield 38, 3) := by decide +kernel
theorem dX9_tells_101 : decode cX9_tells 101 = .ok (.iload 6, 2) := by decide +kernel
theorem dX9_tells_103 : decode cX9_tells 103 = .ok (.baload, 1) := by decide +kernel
theorem dX9_tells_104 : decode cX9_tells 104 = .ok (.ifCond .eq 59, 3) := by decide +kernel
theorem dX9_tells_107 : decode cX9_tells 107 = .ok (.aload_n 0, 1) := by decide +kernel
theorem dX9_tells_108 : decode cX9_tells 108 = .ok (.iload 6, 2) := by decide +kernel
theorem dX9_tells_110 : decode cX9_tells 110 = .ok (.aload_n 0, 1) := by decide +kernel
theorem dX9_tells_111 : decode cX9_tells 111 = .ok (.getfield 19, 3) := by decide +kernel
theorem dX9_tells_114 : decode cX9_tells 114 = .ok (.iconst 4, 1) := by decide +kernel
theorem dX9_tells_115 : decode cX9_tells 115 = .ok (.laload, 1) := by decide +kernel
theorem dX9_tells_116 : decode cX9_tells 116 = .ok (.lconst 1, 1) := by decide +kernel
theorem dX9_tells_117 : decode cX9_tells 117 = .ok (.iload 4, 2) := by decide +kernel
theorem dX9_tells_119 : decode cX9_tells 119 = .ok (.lshl, 1) := by decide +kernel
theorem dX9_tells_120 : decode cX9_tells 120 = .ok (.lxor, 1) := by decide +kernel
theorem dX9_tells_121 : decode cX9_tells 121 = .ok (.invokevirtual 127, 3) := by decide +kernel
theorem dX9_tells_124 : decode cX9_tells 124 = .ok (.istore 7, 2) := by decide +kernel
theorem dX9_tells_126 : decode cX9_tells 126 = .ok (.aload_n 0, 1) := by decide +kernel
theorem dX9_tells_127 : decode cX9_tells 127 = .ok (.getfield 42, 3) := by decide +kernel
theorem dX9_tells_130 : decode cX9_tells 130 = .ok (.iload 7, 2) := by decide +kernel
theorem dX9_tells_132 : decode cX9_tells 132 = .ok (.dup2, 1) := by decide +kernel
theorem dX9_tells_133 : decode cX9_tells 133 = .ok (.iaload, 1) := by decide +kernel
theorem dX9_tells_134 : decode cX9_tells 134 = .ok (.iconst 1, 1) := by decide +kernel
theorem dX9_tells_135 : decode cX9_tells 135 = .ok (.iadd, 1) := by decide +kernel
theorem dX9_tells_136 : decode cX9_tells 136 = .ok (.iastore, 1) := by decide +kernel
theorem dX9_tells_137 : decode cX9_tells 137 = .ok (.aload_n 0, 1) := by decide +kernel
theorem dX9_tells_138 : decode cX9_tells 138 = .ok (.getfield 42, 3) := by decide +kernel
theorem dX9_tells_141 : decode cX9_tells 141 = .ok (.iload 7, 2) := by decide +kernel
theorem dX9_tells_143 : decode cX9_tells 143 = .ok (.iaload, 1) := by decide +kernel
theorem dX9_tells_144 : decode cX9_tells 144 = .ok (.iload 5, 2) := by decide +kernel
theorem dX9_tells_146 : decode cX9_tells 146 = .ok (.if_icmp .le 13, 3) := by decide +kernel
theorem dX9_tells_149 : decode cX9_tells 149 = .ok (.aload_n 0, 1) := by decide +kernel
theorem dX9_tells_150 : decode cX9_tells 150 = .ok (.getfield 42, 3) := by decide +kernel
theorem dX9_tells_153 : decode cX9_tells 153 = .ok (.iload 7, 2) := by decide +kernel
theorem dX9_tells_155 : decode cX9_tells 155 = .ok (.iaload, 1) := by decide +kernel
theorem dX9_tells_156 : decode cX9_tells 156 = .ok (.goto 5, 3) := by decide +kernel
theorem dX9_tells_159 : decode cX9_tells 159 = .ok (.iload 5, 2) := by decide +kernel
theorem dX9_tells_161 : decode cX9_tells 161 = .ok (.istore 5, 2) := by decide +kernel
theorem dX9_tells_163 : decode cX9_tells 163 = .ok (.iinc 6 1, 3) := by decide +kernel
theorem dX9_tells_166 : decode cX9_tells 166 = .ok (.goto (-76), 3) := by decide +kernel
theorem dX9_tells_169 : decode cX9_tells 169 = .ok (.iload 5, 2) := by decide +kernel
theorem dX9_tells_171 : decode cX9_tells 171 = .ok (.iload_n 3, 1) := by decide +kernel
theorem dX9_tells_172 : decode cX9_tells 172 = .ok (.if_icmp .ge 8, 3) := by decide +kernel
theorem dX9_tells_175 : decode cX9_tells 175 = .ok (.iload 4, 2) := by decide +kernel
theorem dX9_tells_177 : decode cX9_tells 177 = .ok (.goto 4, 3) := by decide +kernel
theorem dX9_tells_180 : decode cX9_tells 180 = .ok (.iload_n 2, 1) := by decide +kernel
theorem dX9_tells_181 : decode cX9_tells 181 = .ok (.istore_n 2, 1) := by decide +kernel
theorem dX9_tells_182 : decode cX9_tells 182 = .ok (.iload 5, 2) := by decide +kernel
theorem dX9_tells_184 : decode cX9_tells 184 = .ok (.iload_n 3, 1) := by decide +kernel
theorem dX9_tells_185 : decode cX9_tells 185 = .ok (.if_icmp .ge 8, 3) := by decide +kernel
theorem dX9_tells_188 : decode cX9_tells 188 = .ok (.iload 5, 2) := by decide +kernel
theorem dX9_tells_190 : decode cX9_tells 190 = .ok (.goto 4, 3) := by decide +kernel
theorem dX9_tells_193 : decode cX9_tells 193 = .ok (.iload_n 3, 1) := by decide +kernel
theorem dX9_tells_194 : decode cX9_tells 194 = .ok (.istore_n 3, 1) := by decide +kernel
theorem dX9_tells_195 : decode cX9_tells 195 = .ok (.iinc 4 1, 3) := by decide +kernel
theorem dX9_tells_198 : decode cX9_tells 198 = .ok (.goto (-147), 3) := by decide +kernel
theorem dX9_tells_201 : decode cX9_tells 201 = .ok (.iload_n 2, 1) := by decide +kernel
theorem dX9_tells_202 : decode cX9_tells 202 = .ok (.ireturn, 1) := by decide +kernel
theorem dX9_goesSo_0 : decode cX9_goesSo 0 = .ok (.aload_n 0, 1) := by decide +kernel
theorem dX9_goesSo_1 : decode cX9_goesSo 1 = .ok (.getfield 19, 3) := by decide +kernel
theorem dX9_goesSo_4 : decode cX9_goesSo 4 = .ok (.iconst 0, 1) := by decide +kernel
theorem dX9_goesSo_5 : decode cX9_goesSo 5 = .ok (.iload_n 1, 1) := by decide +kernel
theorem dX9_goesSo_6 : decode cX9_goesSo 6 = .ok (.i2l, 1) := by decide +kernel
theorem dX9_goesSo_7 : decode cX9_goesSo 7 = .ok (.lastore, 1) := by decide +kernel
theorem dX9_goesSo_8 : decode cX9_goesSo 8 = .ok (.iconst 1, 1) := by decide +kernel
theorem dX9_goesSo_9 : decode cX9_goesSo 9 = .ok (.istore_n 3, 1) := by decide +kernel
theorem dX9_goesSo_10 : decode cX9_goesSo 10 = .ok (.iconst 0, 1) := by decide +kernel
theorem dX9_goesSo_11 : decode cX9_goesSo 11 = .ok (.istore 4, 2) := by decide +kernel
theorem dX9_goesSo_13 : decode cX9_goesSo 13 = .ok (.iload 4, 2) := by decide +kernel
theorem dX9_goesSo_15 : decode cX9_goesSo 15 = .ok (.iload_n 2, 1) := by decide +kernel
theorem dX9_goesSo_16 : decode cX9_goesSo 16 = .ok (.if_icmp .ge 38, 3) := by decide +kernel
theorem dX9_goesSo_19 : decode cX9_goesSo 19 = .ok (.iload_n 3, 1) := by decide +kernel
theorem dX9_goesSo_20 : decode cX9_goesSo 20 = .ok (.ifCond .eq 34, 3) := by decide +kernel
theorem dX9_goesSo_23 : decode cX9_goesSo 23 = .ok (.aload_n 0, 1) := by decide +kernel
theorem dX9_goesSo_24 : decode cX9_goesSo 24 = .ok (.invokevirtual 137, 3) := by decide +kernel
theorem dX9_goesSo_27 : decode cX9_goesSo 27 = .ok (.aload_n 0, 1) := by decide +kernel
theorem dX9_goesSo_28 : decode cX9_goesSo 28 = .ok (.iconst 2, 1) := by decide +kernel
theorem dX9_goesSo_29 : decode cX9_goesSo 29 = .ok (.invokevirtual 97, 3) := by decide +kernel
theorem dX9_goesSo_32 : decode cX9_goesSo 32 = .ok (.aload_n 0, 1) := by decide +kernel
theorem dX9_goesSo_33 : decode cX9_goesSo 33 = .ok (.getfield 45, 3) := by decide +kernel
theorem dX9_goesSo_36 : decode cX9_goesSo 36 = .ok (.iload 4, 2) := by decide +kernel
theorem dX9_goesSo_38 : decode cX9_goesSo 38 = .ok (.iaload, 1) := by decide +kernel
theorem dX9_goesSo_39 : decode cX9_goesSo 39 = .ok (.if_icmp .ne 7, 3) := by decide +kernel
theorem dX9_goesSo_42 : decode cX9_goesSo 42 = .ok (.iconst 1, 1) := by decide +kernel
theorem dX9_goesSo_43 : decode cX9_goesSo 43 = .ok (.goto 4, 3) := by decide +kernel
theorem dX9_goesSo_46 : decode cX9_goesSo 46 = .ok (.iconst 0, 1) := by decide +kernel
theorem dX9_goesSo_47 : decode cX9_goesSo 47 = .ok (.istore_n 3, 1) := by decide +kernel
theorem dX9_goesSo_48 : decode cX9_goesSo 48 = .ok (.iinc 4 1, 3) := by decide +kernel
theorem dX9_goesSo_51 : decode cX9_goesSo 51 = .ok (.goto (-38), 3) := by decide +kernel
theorem dX9_goesSo_54 : decode cX9_goesSo 54 = .ok (.aload_n 0, 1) := by decide +kernel
theorem dX9_goesSo_55 : decode cX9_goesSo 55 = .ok (.invokevirtual 264, 3) := by decide +kernel
theorem dX9_goesSo_58 : decode cX9_goesSo 58 = .ok (.iload_n 3, 1) := by decide +kernel
theorem dX9_goesSo_59 : decode cX9_goesSo 59 = .ok (.ireturn, 1) := by decide +kernel
theorem dX9_apart_0 : decode cX9_apart 0 = .ok (.iload_n 0, 1) := by decide +kernel
theorem dX9_apart_1 : decode cX9_apart 1 = .ok (.iload_n 1, 1) := by decide +kernel
theorem dX9_apart_2 : decode cX9_apart 2 = .ok (.if_icmp .ge 9, 3) := by decide +kernel
theorem dX9_apart_5 : decode cX9_apart 5 = .ok (.iload_n 1, 1) := by decide +kernel
theorem dX9_apart_6 : decode cX9_apart 6 = .ok (.iload_n 0, 1) := by decide +kernel
theorem dX9_apart_7 : decode cX9_apart 7 = .ok (.isub, 1) := by decide +kernel
theorem dX9_apart_8 : decode cX9_apart 8 = .ok (.goto 6, 3) := by decide +kernel
theorem dX9_apart_11 : decode cX9_apart 11 = .ok (.iload_n 0, 1) := by decide +kernel
theorem dX9_apart_12 : decode cX9_apart 12 = .ok (.iload_n 1, 1) := by decide +kernel
theorem dX9_apart_13 : decode cX9_apart 13 = .ok (.isub, 1) := by decide +kernel
theorem dX9_apart_14 : decode cX9_apart 14 = .ok (.ireturn, 1) := by decide +kernel
theorem dX9_differ_0 : decode cX9_differ 0 = .ok (.iload_n 0, 1) := by decide +kernel
theorem dX9_differ_1 : decode cX9_differ 1 = .ok (.bipush 16, 2) := by decide +kernel
theorem dX9_differ_3 : decode cX9_differ 3 = .ok (.idiv, 1) := by decide +kernel
theorem dX9_differ_4 : decode cX9_differ 4 = .ok (.iload_n 1, 1) := by decide +kernel
theorem dX9_differ_5 : decode cX9_differ 5 = .ok (.bipush 16, 2) := by decide +kernel
theorem dX9_differ_7 : decode cX9_differ 7 = .ok (.idiv, 1) := by decide +kernel
theorem dX9_differ_8 : decode cX9_differ 8 = .ok (.invokestatic 289, 3) := by decide +kernel
theorem dX9_differ_11 : decode cX9_differ 11 = .ok (.iload_n 0, 1) := by decide +kernel
theorem dX9_differ_12 : decode cX9_differ 12 = .ok (.iconst 4, 1) := by decide +kernel
theorem dX9_differ_13 : decode cX9_differ 13 = .ok (.idiv, 1) := by decide +kernel
theorem dX9_differ_14 : decode cX9_differ 14 = .ok (.iconst 4, 1) := by decide +kernel
theorem dX9_differ_15 : decode cX9_differ 15 = .ok (.irem, 1) := by decide +kernel
theorem dX9_differ_16 : decode cX9_differ 16 = .ok (.iload_n 1, 1) := by decide +kernel
theorem dX9_differ_17 : decode cX9_differ 17 = .ok (.iconst 4, 1) := by decide +kernel
theorem dX9_differ_18 : decode cX9_differ 18 = .ok (.idiv, 1) := by decide +kernel
theorem dX9_differ_19 : decode cX9_differ 19 = .ok (.iconst 4, 1) := by decide +kernel
theorem dX9_differ_20 : decode cX9_differ 20 = .ok (.irem, 1) := by decide +kernel
theorem dX9_differ_21 : decode cX9_differ 21 = .ok (.invokestatic 289, 3) := by decide +kernel
theorem dX9_differ_24 : decode cX9_differ 24 = .ok (.iadd, 1) := by decide +kernel
theorem dX9_differ_25 : decode cX9_differ 25 = .ok (.iload_n 0, 1) := by decide +kernel
theorem dX9_differ_26 : decode cX9_differ 26 = .ok (.iconst 4, 1) := by decide +kernel
theorem dX9_differ_27 : decode cX9_differ 27 = .ok (.irem, 1) := by decide +kernel
theorem dX9_differ_28 : decode cX9_differ 28 = .ok (.iload_n 1, 1) := by decide +kernel
theorem dX9_differ_29 : decode cX9_differ 29 = .ok (.iconst 4, 1) := by decide +kernel
theorem dX9_differ_30 : decode cX9_differ 30 = .ok (.irem, 1) := by decide +kernel
theorem dX9_differ_31 : decode cX9_differ 31 = .ok (.invokestatic 289, 3) := by decide +kernel
theorem dX9_differ_34 : decode cX9_differ 34 = .ok (.iadd, 1) := by decide +kernel
theorem dX9_differ_35 : decode cX9_differ 35 = .ok (.ireturn, 1) := by decide +kernel
theorem dX9_teachFor_0 : decode cX9_teachFor 0 = .ok (.iload_n 1, 1) := by decide +kernel
theorem dX9_teachFor_1 : decode cX9_teachFor 1 = .ok (.i2l, 1) := by decide +kernel
theorem dX9_teachFor_2 : decode cX9_teachFor 2 = .ok (.lconst 0, 1) := by decide +kernel
theorem dX9_teachFor_3 : decode cX9_teachFor 3 = .ok (.ldc2_w 292, 3) := by decide +kernel
theorem dX9_teachFor_6 : decode cX9_teachFor 6 = .ok (.invokestatic 67, 3) := by decide +kernel
theorem dX9_teachFor_9 : decode cX9_teachFor 9 = .ok (.ifCond .ne 6, 3) := by decide +kernel
theorem dX9_teachFor_12 : decode cX9_teachFor 12 = .ok (.ldc 142, 2) := by decide +kernel
theorem dX9_teachFor_14 : decode cX9_teachFor 14 = .ok (.ireturn, 1) := by decide +kernel
theorem dX9_teachFor_15 : decode cX9_teachFor 15 = .ok (.iload_n 1, 1) := by decide +kernel
theorem dX9_teachFor_16 : decode cX9_teachFor 16 = .ok (.ifCond .ne 21, 3) := by decide +kernel
theorem dX9_teachFor_19 : decode cX9_teachFor 19 = .ok (.aload_n 0, 1) := by decide +kernel
theorem dX9_teachFor_20 : decode cX9_teachFor 20 = .ok (.getfield 64, 3) := by decide +kernel
theorem dX9_teachFor_23 : decode cX9_teachFor 23 = .ok (.ifCond .ne 8, 3) := by decide +kernel
theorem dX9_teachFor_26 : decode cX9_teachFor 26 = .ok (.ldc 220, 2) := by decide +kernel
theorem dX9_teachFor_28 : decode cX9_teachFor 28 = .ok (.goto 8, 3) := by decide +kernel
theorem dX9_teachFor_31 : decode cX9_teachFor 31 = .ok (.aload_n 0, 1) := by decide +kernel
theorem dX9_teachFor_32 : decode cX9_teachFor 32 = .ok (.iconst 0, 1) := by decide +kernel
theorem dX9_teachFor_33 : decode cX9_teachFor 33 = .ok (.invokevirtual 97, 3) := by decide +kernel
theorem dX9_teachFor_36 : decode cX9_teachFor 36 = .ok (.ireturn, 1) := by decide +kernel
theorem dX9_teachFor_37 : decode cX9_teachFor 37 = .ok (.iconst 0, 1) := by decide +kernel
theorem dX9_teachFor_38 : decode cX9_teachFor 38 = .ok (.istore_n 2, 1) := by decide +kernel
theorem dX9_teachFor_39 : decode cX9_teachFor 39 = .ok (.iconst 1, 1) := by decide +kernel
theorem dX9_teachFor_40 : decode cX9_teachFor 40 = .ok (.istore_n 3, 1) := by decide +kernel
theorem dX9_teachFor_41 : decode cX9_teachFor 41 = .ok (.iload_n 1, 1) := by decide +kernel
theorem dX9_teachFor_42 : decode cX9_teachFor 42 = .ok (.iload_n 3, 1) := by decide +kernel
theorem dX9_teachFor_43 : decode cX9_teachFor 43 = .ok (.idiv, 1) := by decide +kernel
theorem dX9_teachFor_44 : decode cX9_teachFor 44 = .ok (.bipush 9, 2) := by decide +kernel
theorem dX9_teachFor_46 : decode cX9_teachFor 46 = .ok (.if_icmp .le 11, 3) := by decide +kernel
theorem dX9_teachFor_49 : decode cX9_teachFor 49 = .ok (.iload_n 3, 1) := by decide +kernel
theorem dX9_teachFor_50 : decode cX9_teachFor 50 = .ok (.bipush 10, 2) := by decide +kernel
theorem dX9_teachFor_52 : decode cX9_teachFor 52 = .ok (.imul, 1) := by decide +kernel
theorem dX9_teachFor_53 : decode cX9_teachFor 53 = .ok (.istore_n 3, 1) := by decide +kernel
theorem dX9_teachFor_54 : decode cX9_teachFor 54 = .ok (.goto (-13), 3) := by decide +kernel
theorem dX9_teachFor_57 : decode cX9_teachFor 57 = .ok (.iload_n 3, 1) := by decide +kernel
theorem dX9_teachFor_58 : decode cX9_teachFor 58 = .ok (.ifCond .le 44, 3) := by decide +kernel
theorem dX9_teachFor_61 : decode cX9_teachFor 61 = .ok (.iload_n 1, 1) := by decide +kernel
theorem dX9_teachFor_62 : decode cX9_teachFor 62 = .ok (.iload_n 3, 1) := by decide +kernel
theorem dX9_teachFor_63 : decode cX9_teachFor 63 = .ok (.idiv, 1) := by decide +kernel
theorem dX9_teachFor_64 : decode cX9_teachFor 64 = .ok (.bipush 10, 2) := by decide +kernel
theorem dX9_teachFor_66 : decode cX9_teachFor 66 = .ok (.irem, 1) := by decide +kernel
theorem dX9_teachFor_67 : decode cX9_teachFor 67 = .ok (.iconst 1, 1) := by decide +kernel
theorem dX9_teachFor_68 : decode cX9_teachFor 68 = .ok (.isub, 1) := by decide +kernel
theorem dX9_teachFor_69 : decode cX9_teachFor 69 = .ok (.istore 4, 2) := by decide +kernel
theorem dX9_teachFor_71 : decode cX9_teachFor 71 = .ok (.aload_n 0, 1) := by decide +kernel
theorem dX9_teachFor_72 : decode cX9_teachFor 72 = .ok (.iload 4, 2) := by decide +kernel
theorem dX9_teachFor_74 : decode cX9_teachFor 74 = .ok (.invokevirtual 202, 3) := by decide +kernel
theorem dX9_teachFor_77 : decode cX9_teachFor 77 = .ok (.ifCond .ne 6, 3) := by decide +kernel
theorem dX9_teachFor_80 : decode cX9_teachFor 80 = .ok (.ldc 142, 2) := by decide +kernel
theorem dX9_teachFor_82 : decode cX9_teachFor 82 = .ok (.ireturn, 1) := by decide +kernel
theorem dX9_teachFor_83 : decode cX9_teachFor 83 = .ok (.aload_n 0, 1) := by decide +kernel
theorem dX9_teachFor_84 : decode cX9_teachFor 84 = .ok (.getfield 45, 3) := by decide +kernel
theorem dX9_teachFor_87 : decode cX9_teachFor 87 = .ok (.iload_n 2, 1) := by decide +kernel
theorem dX9_teachFor_88 : decode cX9_teachFor 88 = .ok (.iload 4, 2) := by decide +kernel
theorem dX9_teachFor_90 : decode cX9_teachFor 90 = .ok (.iastore, 1) := by decide +kernel
theorem dX9_teachFor_91 : decode cX9_teachFor 91 = .ok (.iinc 2 1, 3) := by decide +kernel
theorem dX9_teachFor_94 : decode cX9_teachFor 94 = .ok (.iload_n 3, 1) := by decide +kernel
theorem dX9_teachFor_95 : decode cX9_teachFor 95 = .ok (.bipush 10, 2) := by decide +kernel
theorem dX9_teachFor_97 : decode cX9_teachFor 97 = .ok (.idiv, 1) := by decide +kernel
theorem dX9_teachFor_98 : decode cX9_teachFor 98 = .ok (.istore_n 3, 1) := by decide +kernel
theorem dX9_teachFor_99 : decode cX9_teachFor 99 = .ok (.goto (-42), 3) := by decide +kernel
theorem dX9_teachFor_102 : decode cX9_teachFor 102 = .ok (.iconst (-1), 1) := by decide +kernel
theorem dX9_teachFor_103 : decode cX9_teachFor 103 = .ok (.istore 4, 2) := by decide +kernel
theorem dX9_teachFor_105 : decode cX9_teachFor 105 = .ok (.aload_n 0, 1) := by decide +kernel
theorem dX9_teachFor_106 : decode cX9_teachFor 106 = .ok (.invokevirtual 261, 3) := by decide +kernel
theorem dX9_teachFor_109 : decode cX9_teachFor 109 = .ok (.iconst 0, 1) := by decide +kernel
theorem dX9_teachFor_110 : decode cX9_teachFor 110 = .ok (.istore 5, 2) := by decide +kernel
theorem dX9_teachFor_112 : decode cX9_teachFor 112 = .ok (.iload 5, 2) := by decide +kernel
theorem dX9_teachFor_114 : decode cX9_teachFor 114 = .ok (.bipush 64, 2) := by decide +kernel
theorem dX9_teachFor_116 : decode cX9_teachFor 116 = .ok (.if_icmp .ge 69, 3) := by decide +kernel
theorem dX9_teachFor_119 : decode cX9_teachFor 119 = .ok (.iload 4, 2) := by decide +kernel
theorem dX9_teachFor_121 : decode cX9_teachFor 121 = .ok (.iconst (-1), 1) := by decide +kernel
theorem dX9_teachFor_122 : decode cX9_teachFor 122 = .ok (.if_icmp .eq 26, 3) := by decide +kernel
theorem dX9_teachFor_125 : decode cX9_teachFor 125 = .ok (.iload 5, 2) := by decide +kernel
theorem dX9_teachFor_127 : decode cX9_teachFor 127 = .ok (.aload_n 0, 1) := by decide +kernel
theorem dX9_teachFor_128 : decode cX9_teachFor 128 = .ok (.iconst 0, 1) := by decide +kernel
theorem dX9_teachFor_129 : decode cX9_teachFor 129 = .ok (.invokevirtual 97, 3) := by decide +kernel
theorem dX9_teachFor_132 : decode cX9_teachFor 132 = .ok (.invokestatic 294, 3) := by decide +kernel
theorem dX9_teachFor_135 : decode cX9_teachFor 135 = .ok (.iload 4, 2) := by decide +kernel
theorem dX9_teachFor_137 : decode cX9_teachFor 137 = .ok (.aload_n 0, 1) := by decide +kernel
theorem dX9_teachFor_138 : decode cX9_teachFor 138 = .ok (.iconst 0, 1) := by decide +kernel
theorem dX9_teachFor_139 : decode cX9_teachFor 139 = .ok (.invokevirtual 97, 3) := by decide +kernel
theorem dX9_teachFor_142 : decode cX9_teachFor 142 = .ok (.invokestatic 294, 3) := by decide +kernel
theorem dX9_teachFor_145 : decode cX9_teachFor 145 = .ok (.if_icmp .ge 7, 3) := by decide +kernel
theorem dX9_teachFor_148 : decode cX9_teachFor 148 = .ok (.iconst 1, 1) := by decide +kernel
theorem dX9_teachFor_149 : decode cX9_teachFor 149 = .ok (.goto 4, 3) := by decide +kernel
theorem dX9_teachFor_152 : decode cX9_teachFor 152 = .ok (.iconst 0, 1) := by decide +kernel
theorem dX9_teachFor_153 : decode cX9_teachFor 153 = .ok (.istore 6, 2) := by decide +kernel
theorem dX9_teachFor_155 : decode cX9_teachFor 155 = .ok (.iload 6, 2) := by decide +kernel
theorem dX9_teachFor_157 : decode cX9_teachFor 157 = .ok (.ifCond .eq 18, 3) := by decide +kernel
theorem dX9_teachFor_160 : decode cX9_teachFor 160 = .ok (.aload_n 0, 1) := by decide +kernel
theorem dX9_teachFor_161 : decode cX9_teachFor 161 = .ok (.iload 5, 2) := by decide +kernel
theorem dX9_teachFor_163 : decode cX9_teachFor 163 = .ok (.iload_n 2, 1) := by decide +kernel
theorem dX9_teachFor_164 : decode cX9_teachFor 164 = .ok (.invokevirtual 297, 3) := by decide +kernel
theorem dX9_teachFor_167 : decode cX9_teachFor 167 = .ok (.ifCond .eq 8, 3) := by decide +kernel
theorem dX9_teachFor_170 : decode cX9_teachFor 170 = .ok (.iload 5, 2) := by decide +kernel
theorem dX9_teachFor_172 : decode cX9_teachFor 172 = .ok (.goto 5, 3) := by decide +kernel
theorem dX9_teachFor_175 : decode cX9_teachFor 175 = .ok (.iload 4, 2) := by decide +kernel
theorem dX9_teachFor_177 : decode cX9_teachFor 177 = .ok (.istore 4, 2) := by decide +kernel
theorem dX9_teachFor_179 : decode cX9_teachFor 179 = .ok (.iinc 5 1, 3) := by decide +kernel
theorem dX9_teachFor_182 : decode cX9_teachFor 182 = .ok (.goto (-70), 3) := by decide +kernel
theorem dX9_teachFor_185 : decode cX9_teachFor 185 = .ok (.iload 4, 2) := by decide +kernel
theorem dX9_teachFor_187 : decode cX9_teachFor 187 = .ok (.ireturn, 1) := by decide +kernel
theorem dX9_otherwise_0 : decode cX9_otherwise 0 = .ok (.iload_n 1, 1) := by decide +kernel
theorem dX9_otherwise_1 : decode cX9_otherwise 1 = .ok (.invokestatic 238, 3) := by decide +kernel
theorem dX9_otherwise_4 : decode cX9_otherwise 4 = .ok (.ifCond .ne 6, 3) := by decide +kernel
theorem dX9_otherwise_7 : decode cX9_otherwise 7 = .ok (.ldc 205, 2) := by decide +kernel
theorem dX9_otherwise_9 : decode cX9_otherwise 9 = .ok (.ireturn, 1) := by decide +kernel
theorem dX9_otherwise_10 : decode cX9_otherwise 10 = .ok (.aload_n 0, 1) := by decide +kernel
theorem dX9_otherwise_11 : decode cX9_otherwise 11 = .ok (.getfield 64, 3) := by decide +kernel
theorem dX9_otherwise_14 : decode cX9_otherwise 14 = .ok (.ifCond .ne 6, 3) := by decide +kernel
theorem dX9_otherwise_17 : decode cX9_otherwise 17 = .ok (.ldc 220, 2) := by decide +kernel
theorem dX9_otherwise_19 : decode cX9_otherwise 19 = .ok (.ireturn, 1) := by decide +kernel
theorem dX9_otherwise_20 : decode cX9_otherwise 20 = .ok (.aload_n 0, 1) := by decide +kernel
theorem dX9_otherwise_21 : decode cX9_otherwise 21 = .ok (.invokevirtual 261, 3) := by decide +kernel
theorem dX9_otherwise_24 : decode cX9_otherwise 24 = .ok (.iconst 1, 1) := by decide +kernel
theorem dX9_otherwise_25 : decode cX9_otherwise 25 = .ok (.istore_n 2, 1) := by decide +kernel
theorem dX9_otherwise_26 : decode cX9_otherwise 26 = .ok (.iload_n 2, 1) := by decide +kernel
theorem dX9_otherwise_27 : decode cX9_otherwise 27 = .ok (.bipush 101, 2) := by decide +kernel
theorem dX9_otherwise_29 : decode cX9_otherwise 29 = .ok (.if_icmp .ge 24, 3) := by decide +kernel
theorem dX9_otherwise_32 : decode cX9_otherwise 32 = .ok (.aload_n 0, 1) := by decide +kernel
theorem dX9_otherwise_33 : decode cX9_otherwise 33 = .ok (.invokevirtual 137, 3) := by decide +kernel
theorem dX9_otherwise_36 : decode cX9_otherwise 36 = .ok (.aload_n 0, 1) := by decide +kernel
theorem dX9_otherwise_37 : decode cX9_otherwise 37 = .ok (.getfield 48, 3) := by decide +kernel
theorem dX9_otherwise_40 : decode cX9_otherwise 40 = .ok (.iload_n 2, 1) := by decide +kernel
theorem dX9_otherwise_41 : decode cX9_otherwise 41 = .ok (.aload_n 0, 1) := by decide +kernel
theorem dX9_otherwise_42 : decode cX9_otherwise 42 = .ok (.iconst 2, 1) := by decide +kernel
theorem dX9_otherwise_43 : decode cX9_otherwise 43 = .ok (.invokevirtual 97, 3) := by decide +kernel
theorem dX9_otherwise_46 : decode cX9_otherwise 46 = .ok (.iastore, 1) := by decide +kernel
theorem dX9_otherwise_47 : decode cX9_otherwise 47 = .ok (.iinc 2 1, 3) := by decide +kernel
theorem dX9_otherwise_50 : decode cX9_otherwise 50 = .ok (.goto (-24), 3) := by decide +kernel
theorem dX9_otherwise_53 : decode cX9_otherwise 53 = .ok (.aload_n 0, 1) := by decide +kernel
theorem dX9_otherwise_54 : decode cX9_otherwise 54 = .ok (.invokevirtual 264, 3) := by decide +kernel
theorem dX9_otherwise_57 : decode cX9_otherwise 57 = .ok (.aload_n 0, 1) := by decide +kernel
theorem dX9_otherwise_58 : decode cX9_otherwise 58 = .ok (.getfield 19, 3) := by decide +kernel
theorem dX9_otherwise_61 : decode cX9_otherwise 61 = .ok (.iconst 0, 1) := by decide +kernel
theorem dX9_otherwise_62 : decode cX9_otherwise 62 = .ok (.iload_n 1, 1) := by decide +kernel
theorem dX9_otherwise_63 : decode cX9_otherwise 63 = .ok (.i2l, 1) := by decide +kernel
theorem dX9_otherwise_64 : decode cX9_otherwise 64 = .ok (.lastore, 1) := by decide +kernel
theorem dX9_otherwise_65 : decode cX9_otherwise 65 = .ok (.iconst (-1), 1) := by decide +kernel
theorem dX9_otherwise_66 : decode cX9_otherwise 66 = .ok (.istore_n 2, 1) := by decide +kernel
theorem dX9_otherwise_67 : decode cX9_otherwise 67 = .ok (.iconst 1, 1) := by decide +kernel
theorem dX9_otherwise_68 : decode cX9_otherwise 68 = .ok (.istore_n 3, 1) := by decide +kernel
theorem dX9_otherwise_69 : decode cX9_otherwise 69 = .ok (.iload_n 3, 1) := by decide +kernel
theorem dX9_otherwise_70 : decode cX9_otherwise 70 = .ok (.bipush 101, 2) := by decide +kernel
theorem dX9_otherwise_72 : decode cX9_otherwise 72 = .ok (.if_icmp .ge 38, 3) := by decide +kernel
theorem dX9_otherwise_75 : decode cX9_otherwise 75 = .ok (.iload_n 2, 1) := by decide +kernel
theorem dX9_otherwise_76 : decode cX9_otherwise 76 = .ok (.iconst (-1), 1) := by decide +kernel
theorem dX9_otherwise_77 : decode cX9_otherwise 77 = .ok (.if_icmp .ne 33, 3) := by decide +kernel
theorem dX9_otherwise_80 : decode cX9_otherwise 80 = .ok (.aload_n 0, 1) := by decide +kernel
theorem dX9_otherwise_81 : decode cX9_otherwise 81 = .ok (.invokevirtual 137, 3) := by decide +kernel
theorem dX9_otherwise_84 : decode cX9_otherwise 84 = .ok (.aload_n 0, 1) := by decide +kernel
theorem dX9_otherwise_85 : decode cX9_otherwise 85 = .ok (.iconst 2, 1) := by decide +kernel
theorem dX9_otherwise_86 : decode cX9_otherwise 86 = .ok (.invokevirtual 97, 3) := by decide +kernel
theorem dX9_otherwise_89 : decode cX9_otherwise 89 = .ok (.aload_n 0, 1) := by decide +kernel
theorem dX9_otherwise_90 : decode cX9_otherwise 90 = .ok (.getfield 48, 3) := by decide +kernel
theorem dX9_otherwise_93 : decode cX9_otherwise 93 = .ok (.iload_n 3, 1) := by decide +kernel
theorem dX9_otherwise_94 : decode cX9_otherwise 94 = .ok (.iaload, 1) := by decide +kernel
theorem dX9_otherwise_95 : decode cX9_otherwise 95 = .ok (.if_icmp .ne 7, 3) := by decide +kernel
theorem dX9_otherwise_98 : decode cX9_otherwise 98 = .ok (.iconst (-1), 1) := by decide +kernel
theorem dX9_otherwise_99 : decode cX9_otherwise 99 = .ok (.goto 4, 3) := by decide +kernel
theorem dX9_otherwise_102 : decode cX9_otherwise 102 = .ok (.iload_n 3, 1) := by decide +kernel
theorem dX9_otherwise_103 : decode cX9_otherwise 103 = .ok (.istore_n 2, 1) := by decide +kernel
theorem dX9_otherwise_104 : decode cX9_otherwise 104 = .ok (.iinc 3 1, 3) := by decide +kernel
theorem dX9_otherwise_107 : decode cX9_otherwise 107 = .ok (.goto (-38), 3) := by decide +kernel
theorem dX9_otherwise_110 : decode cX9_otherwise 110 = .ok (.aload_n 0, 1) := by decide +kernel
theorem dX9_otherwise_111 : decode cX9_otherwise 111 = .ok (.invokevirtual 264, 3) := by decide +kernel
theorem dX9_otherwise_114 : decode cX9_otherwise 114 = .ok (.iload_n 2, 1) := by decide +kernel
theorem dX9_otherwise_115 : decode cX9_otherwise 115 = .ok (.ireturn, 1) := by decide +kernel
theorem dX9_write_0 : decode cX9_write 0 = .ok (.aload_n 0, 1) := by decide +kernel
theorem dX9_write_1 : decode cX9_write 1 = .ok (.iload_n 1, 1) := by decide +kernel
theorem dX9_write_2 : decode cX9_write 2 = .ok (.invokevirtual 202, 3) := by decide +kernel
theorem dX9_write_5 : decode cX9_write 5 = .ok (.ifCond .ne 6, 3) := by decide +kernel
theorem dX9_write_8 : decode cX9_write 8 = .ok (.ldc 205, 2) := by decide +kernel
theorem dX9_write_10 : decode cX9_write 10 = .ok (.ireturn, 1) := by decide +kernel
theorem dX9_write_11 : decode cX9_write 11 = .ok (.iload_n 2, 1) := by decide +kernel
theorem dX9_write_12 : decode cX9_write 12 = .ok (.i2l, 1) := by decide +kernel
theorem dX9_write_13 : decode cX9_write 13 = .ok (.lconst 0, 1) := by decide +kernel
theorem dX9_write_14 : decode cX9_write 14 = .ok (.ldc2_w 301, 3) := by decide +kernel
theorem dX9_write_17 : decode cX9_write 17 = .ok (.invokestatic 67, 3) := by decide +kernel
theorem dX9_write_20 : decode cX9_write 20 = .ok (.ifCond .ne 6, 3) := by decide +kernel
theorem dX9_write_23 : decode cX9_write 23 = .ok (.ldc 142, 2) := by decide +kernel
theorem dX9_write_25 : decode cX9_write 25 = .ok (.ireturn, 1) := by decide +kernel
theorem dX9_write_26 : decode cX9_write 26 = .ok (.aload_n 0, 1) := by decide +kernel
theorem dX9_write_27 : decode cX9_write 27 = .ok (.getfield 190, 3) := by decide +kernel
theorem dX9_write_30 : decode cX9_write 30 = .ok (.bipush 15, 2) := by decide +kernel
theorem dX9_write_32 : decode cX9_write 32 = .ok (.if_icmp .ne 6, 3) := by decide +kernel
theorem dX9_write_35 : decode cX9_write 35 = .ok (.ldc 146, 2) := by decide +kernel
theorem dX9_write_37 : decode cX9_write 37 = .ok (.ireturn, 1) := by decide +kernel
theorem dX9_write_38 : decode cX9_write 38 = .ok (.aload_n 0, 1) := by decide +kernel
theorem dX9_write_39 : decode cX9_write 39 = .ok (.getfield 51, 3) := by decide +kernel
theorem dX9_write_42 : decode cX9_write 42 = .ok (.iconst 2, 1) := by decide +kernel
theorem dX9_write_43 : decode cX9_write 43 = .ok (.aload_n 0, 1) := by decide +kernel
theorem dX9_write_44 : decode cX9_write 44 = .ok (.getfield 190, 3) := by decide +kernel
theorem dX9_write_47 : decode cX9_write 47 = .ok (.imul, 1) := by decide +kernel
theorem dX9_write_48 : decode cX9_write 48 = .ok (.iload_n 1, 1) := by decide +kernel
theorem dX9_write_49 : decode cX9_write 49 = .ok (.iastore, 1) := by decide +kernel
theorem dX9_write_50 : decode cX9_write 50 = .ok (.aload_n 0, 1) := by decide +kernel
theorem dX9_write_51 : decode cX9_write 51 = .ok (.getfield 51, 3) := by decide +kernel
theorem dX9_write_54 : decode cX9_write 54 = .ok (.iconst 2, 1) := by decide +kernel
theorem dX9_write_55 : decode cX9_write 55 = .ok (.aload_n 0, 1) := by decide +kernel
theorem dX9_write_56 : decode cX9_write 56 = .ok (.getfield 190, 3) := by decide +kernel
theorem dX9_write_59 : decode cX9_write 59 = .ok (.imul, 1) := by decide +kernel
theorem dX9_write_60 : decode cX9_write 60 = .ok (.iconst 1, 1) := by decide +kernel
theorem dX9_write_61 : decode cX9_write 61 = .ok (.iadd, 1) := by decide +kernel
theorem dX9_write_62 : decode cX9_write 62 = .ok (.iload_n 2, 1) := by decide +kernel
theorem dX9_write_63 : decode cX9_write 63 = .ok (.iastore, 1) := by decide +kernel
theorem dX9_write_64 : decode cX9_write 64 = .ok (.aload_n 0, 1) := by decide +kernel
theorem dX9_write_65 : decode cX9_write 65 = .ok (.dup, 1) := by decide +kernel
theorem dX9_write_66 : decode cX9_write 66 = .ok (.getfield 190, 3) := by decide +kernel
theorem dX9_write_69 : decode cX9_write 69 = .ok (.iconst 1, 1) := by decide +kernel
theorem dX9_write_70 : decode cX9_write 70 = .ok (.iadd, 1) := by decide +kernel
theorem dX9_write_71 : decode cX9_write 71 = .ok (.putfield 190, 3) := by decide +kernel
theorem dX9_write_74 : decode cX9_write 74 = .ok (.aload_n 0, 1) := by decide +kernel
theorem dX9_write_75 : decode cX9_write 75 = .ok (.getfield 190, 3) := by decide +kernel
theorem dX9_write_78 : decode cX9_write 78 = .ok (.ireturn, 1) := by decide +kernel
theorem dX9_tear_0 : decode cX9_tear 0 = .ok (.aload_n 0, 1) := by decide +kernel
theorem dX9_tear_1 : decode cX9_tear 1 = .ok (.getfield 190, 3) := by decide +kernel
theorem dX9_tear_4 : decode cX9_tear 4 = .ok (.istore_n 1, 1) := by decide +kernel
theorem dX9_tear_5 : decode cX9_tear 5 = .ok (.aload_n 0, 1) := by decide +kernel
theorem dX9_tear_6 : decode cX9_tear 6 = .ok (.iconst 0, 1) := by decide +kernel
theorem dX9_tear_7 : decode cX9_tear 7 = .ok (.putfield 190, 3) := by decide +kernel
theorem dX9_tear_10 : decode cX9_tear 10 = .ok (.iload_n 1, 1) := by decide +kernel
theorem dX9_tear_11 : decode cX9_tear 11 = .ok (.ireturn, 1) := by decide +kernel
theorem dX9_judge_0 : decode cX9_judge 0 = .ok (.iconst (-1), 1) := by decide +kernel
theorem dX9_judge_1 : decode cX9_judge 1 = .ok (.istore_n 1, 1) := by decide +kernel
theorem dX9_judge_2 : decode cX9_judge 2 = .ok (.aload_n 0, 1) := by decide +kernel
theorem dX9_judge_3 : decode cX9_judge 3 = .ok (.getfield 190, 3) := by decide +kernel
theorem dX9_judge_6 : decode cX9_judge 6 = .ok (.iconst 1, 1) := by decide +kernel
theorem dX9_judge_7 : decode cX9_judge 7 = .ok (.isub, 1) := by decide +kernel
theorem dX9_judge_8 : decode cX9_judge 8 = .ok (.istore_n 2, 1) := by decide +kernel
theorem dX9_judge_9 : decode cX9_judge 9 = .ok (.iload_n 2, 1) := by decide +kernel
theorem dX9_judge_10 : decode cX9_judge 10 = .ok (.ifCond .lt 46, 3) := by decide +kernel
theorem dX9_judge_13 : decode cX9_judge 13 = .ok (.aload_n 0, 1) := by decide +kernel
theorem dX9_judge_14 : decode cX9_judge 14 = .ok (.getfield 19, 3) := by decide +kernel
theorem dX9_judge_17 : decode cX9_judge 17 = .ok (.bipush 18, 2) := by decide +kernel
theorem dX9_judge_19 : decode cX9_judge 19 = .ok (.aload_n 0, 1) := by decide +kernel
theorem dX9_judge_20 : decode cX9_judge 20 = .ok (.getfield 51, 3) := by decide +kernel
theorem dX9_judge_23 : decode cX9_judge 23 = .ok (.iconst 2, 1) := by decide +kernel
theorem dX9_judge_24 : decode cX9_judge 24 = .ok (.iload_n 2, 1) := by decide +kernel
theorem dX9_judge_25 : decode cX9_judge 25 = .ok (.imul, 1) := by decide +kernel
theorem dX9_judge_26 : decode cX9_judge 26 = .ok (.iaload, 1) := by decide +kernel
theorem dX9_judge_27 : decode cX9_judge 27 = .ok (.iadd, 1) := by decide +kernel
theorem dX9_judge_28 : decode cX9_judge 28 = .ok (.laload, 1) := by decide +kernel
theorem dX9_judge_29 : decode cX9_judge 29 = .ok (.aload_n 0, 1) := by decide +kernel
theorem dX9_judge_30 : decode cX9_judge 30 = .ok (.getfield 51, 3) := by decide +kernel
theorem dX9_judge_33 : decode cX9_judge 33 = .ok (.iconst 2, 1) := by decide +kernel
theorem dX9_judge_34 : decode cX9_judge 34 = .ok (.iload_n 2, 1) := by decide +kernel
theorem dX9_judge_35 : decode cX9_judge 35 = .ok (.imul, 1) := by decide +kernel
theorem dX9_judge_36 : decode cX9_judge 36 = .ok (.iconst 1, 1) := by decide +kernel
theorem dX9_judge_37 : decode cX9_judge 37 = .ok (.iadd, 1) := by decide +kernel
theorem dX9_judge_38 : decode cX9_judge 38 = .ok (.iaload, 1) := by decide +kernel
theorem dX9_judge_39 : decode cX9_judge 39 = .ok (.i2l, 1) := by decide +kernel
theorem dX9_judge_40 : decode cX9_judge 40 = .ok (.lcmp, 1) := by decide +kernel
theorem dX9_judge_41 : decode cX9_judge 41 = .ok (.ifCond .ne 7, 3) := by decide +kernel
theorem dX9_judge_44 : decode cX9_judge 44 = .ok (.iload_n 1, 1) := by decide +kernel
theorem dX9_judge_45 : decode cX9_judge 45 = .ok (.goto 4, 3) := by decide +kernel
theorem dX9_judge_48 : decode cX9_judge 48 = .ok (.iload_n 2, 1) := by decide +kernel
theorem dX9_judge_49 : decode cX9_judge 49 = .ok (.istore_n 1, 1) := by decide +kernel
theorem dX9_judge_50 : decode cX9_judge 50 = .ok (.iinc 2 (-1), 3) := by decide +kernel
theorem dX9_judge_53 : decode cX9_judge 53 = .ok (.goto (-44), 3) := by decide +kernel
theorem dX9_judge_56 : decode cX9_judge 56 = .ok (.iload_n 1, 1) := by decide +kernel
theorem dX9_judge_57 : decode cX9_judge 57 = .ok (.ireturn, 1) := by decide +kernel
theorem dX9_seed_0 : decode cX9_seed 0 = .ok (.iload_n 1, 1) := by decide +kernel
theorem dX9_seed_1 : decode cX9_seed 1 = .ok (.ifCond .ge 6, 3) := by decide +kernel
theorem dX9_seed_4 : decode cX9_seed 4 = .ok (.ldc 142, 2) := by decide +kernel
theorem dX9_seed_6 : decode cX9_seed 6 = .ok (.ireturn, 1) := by decide +kernel
theorem dX9_seed_7 : decode cX9_seed 7 = .ok (.aload_n 0, 1) := by decide +kernel
theorem dX9_seed_8 : decode cX9_seed 8 = .ok (.getfield 241, 3) := by decide +kernel
theorem dX9_seed_11 : decode cX9_seed 11 = .ok (.l2i, 1) := by decide +kernel
theorem dX9_seed_12 : decode cX9_seed 12 = .ok (.istore_n 2, 1) := by decide +kernel
theorem dX9_seed_13 : decode cX9_seed 13 = .ok (.aload_n 0, 1) := by decide +kernel
theorem dX9_seed_14 : decode cX9_seed 14 = .ok (.iload_n 1, 1) := by decide +kernel
theorem dX9_seed_15 : decode cX9_seed 15 = .ok (.i2l, 1) := by decide +kernel
theorem dX9_seed_16 : decode cX9_seed 16 = .ok (.putfield 241, 3) := by decide +kernel
theorem dX9_seed_19 : decode cX9_seed 19 = .ok (.iload_n 2, 1) := by decide +kernel
theorem dX9_seed_20 : decode cX9_seed 20 = .ok (.ireturn, 1) := by decide +kernel
theorem dX9_keep_0 : decode cX9_keep 0 = .ok (.iload_n 1, 1) := by decide +kernel
theorem dX9_keep_1 : decode cX9_keep 1 = .ok (.i2l, 1) := by decide +kernel
theorem dX9_keep_2 : decode cX9_keep 2 = .ok (.lconst 0, 1) := by decide +kernel
theorem dX9_keep_3 : decode cX9_keep 3 = .ok (.lconst 1, 1) := by decide +kernel
theorem dX9_keep_4 : decode cX9_keep 4 = .ok (.invokestatic 67, 3) := by decide +kernel
theorem dX9_keep_7 : decode cX9_keep 7 = .ok (.ifCond .ne 6, 3) := by decide +kernel
theorem dX9_keep_10 : decode cX9_keep 10 = .ok (.ldc 205, 2) := by decide +kernel
theorem dX9_keep_12 : decode cX9_keep 12 = .ok (.ireturn, 1) := by decide +kernel
theorem dX9_keep_13 : decode cX9_keep 13 = .ok (.iconst 0, 1) := by decide +kernel
theorem dX9_keep_14 : decode cX9_keep 14 = .ok (.istore_n 2, 1) := by decide +kernel
theorem dX9_keep_15 : decode cX9_keep 15 = .ok (.iload_n 2, 1) := by decide +kernel
theorem dX9_keep_16 : decode cX9_keep 16 = .ok (.bipush 80, 2) := by decide +kernel
theorem dX9_keep_18 : decode cX9_keep 18 = .ok (.if_icmp .ge 26, 3) := by decide +kernel
theorem dX9_keep_21 : decode cX9_keep 21 = .ok (.aload_n 0, 1) := by decide +kernel
theorem dX9_keep_22 : decode cX9_keep 22 = .ok (.getfield 54, 3) := by decide +kernel
theorem dX9_keep_25 : decode cX9_keep 25 = .ok (.bipush 81, 2) := by decide +kernel
theorem dX9_keep_27 : decode cX9_keep 27 = .ok (.iload_n 1, 1) := by decide +kernel
theorem dX9_keep_28 : decode cX9_keep 28 = .ok (.imul, 1) := by decide +kernel
theorem dX9_keep_29 : decode cX9_keep 29 = .ok (.iload_n 2, 1) := by decide +kernel
theorem dX9_keep_30 : decode cX9_keep 30 = .ok (.iadd, 1) := by decide +kernel
theorem dX9_keep_31 : decode cX9_keep 31 = .ok (.aload_n 0, 1) := by decide +kernel
theorem dX9_keep_32 : decode cX9_keep 32 = .ok (.getfield 19, 3) := by decide +kernel
theorem dX9_keep_35 : decode cX9_keep 35 = .ok (.iload_n 2, 1) := by decide +kernel
theorem dX9_keep_36 : decode cX9_keep 36 = .ok (.laload, 1) := by decide +kernel
theorem dX9_keep_37 : decode cX9_keep 37 = .ok (.lastore, 1) := by decide +kernel
theorem dX9_keep_38 : decode cX9_keep 38 = .ok (.iinc 2 1, 3) := by decide +kernel
theorem dX9_keep_41 : decode cX9_keep 41 = .ok (.goto (-26), 3) := by decide +kernel
theorem dX9_keep_44 : decode cX9_keep 44 = .ok (.aload_n 0, 1) := by decide +kernel
theorem dX9_keep_45 : decode cX9_keep 45 = .ok (.getfield 54, 3) := by decide +kernel
theorem dX9_keep_48 : decode cX9_keep 48 = .ok (.bipush 81, 2) := by decide +kernel
theorem dX9_keep_50 : decode cX9_keep 50 = .ok (.iload_n 1, 1) := by decide +kernel
theorem dX9_keep_51 : decode cX9_keep 51 = .ok (.imul, 1) := by decide +kernel
theorem dX9_keep_52 : decode cX9_keep 52 = .ok (.bipush 80, 2) := by decide +kernel
theorem dX9_keep_54 : decode cX9_keep 54 = .ok (.iadd, 1) := by decide +kernel
theorem dX9_keep_55 : decode cX9_keep 55 = .ok (.aload_n 0, 1) := by decide +kernel
theorem dX9_keep_56 : decode cX9_keep 56 = .ok (.getfield 241, 3) := by decide +kernel
theorem dX9_keep_59 : decode cX9_keep 59 = .ok (.lastore, 1) := by decide +kernel
theorem dX9_keep_60 : decode cX9_keep 60 = .ok (.aload_n 0, 1) := by decide +kernel
theorem dX9_keep_61 : decode cX9_keep 61 = .ok (.getfield 57, 3) := by decide +kernel
theorem dX9_keep_64 : decode cX9_keep 64 = .ok (.iload_n 1, 1) := by decide +kernel
theorem dX9_keep_65 : decode cX9_keep 65 = .ok (.iconst 1, 1) := by decide +kernel
theorem dX9_keep_66 : decode cX9_keep 66 = .ok (.bastore, 1) := by decide +kernel
theorem dX9_keep_67 : decode cX9_keep 67 = .ok (.aload_n 0, 1) := by decide +kernel
theorem dX9_keep_68 : decode cX9_keep 68 = .ok (.iconst 0, 1) := by decide +kernel
theorem dX9_keep_69 : decode cX9_keep 69 = .ok (.putfield 193, 3) := by decide +kernel
theorem dX9_keep_72 : decode cX9_keep 72 = .ok (.iconst 1, 1) := by decide +kernel
theorem dX9_keep_73 : decode cX9_keep 73 = .ok (.ireturn, 1) := by decide +kernel
theorem dX9_goBack_0 : decode cX9_goBack 0 = .ok (.iload_n 1, 1) := by decide +kernel
theorem dX9_goBack_1 : decode cX9_goBack 1 = .ok (.i2l, 1) := by decide +kernel
theorem dX9_goBack_2 : decode cX9_goBack 2 = .ok (.lconst 0, 1) := by decide +kernel
theorem dX9_goBack_3 : decode cX9_goBack 3 = .ok (.lconst 1, 1) := by decide +kernel
theorem dX9_goBack_4 : decode cX9_goBack 4 = .ok (.invokestatic 67, 3) := by decide +kernel
theorem dX9_goBack_7 : decode cX9_goBack 7 = .ok (.ifCond .ne 6, 3) := by decide +kernel
theorem dX9_goBack_10 : decode cX9_goBack 10 = .ok (.ldc 205, 2) := by decide +kernel
theorem dX9_goBack_12 : decode cX9_goBack 12 = .ok (.ireturn, 1) := by decide +kernel
theorem dX9_goBack_13 : decode cX9_goBack 13 = .ok (.aload_n 0, 1) := by decide +kernel
theorem dX9_goBack_14 : decode cX9_goBack 14 = .ok (.getfield 57, 3) := by decide +kernel
theorem dX9_goBack_17 : decode cX9_goBack 17 = .ok (.iload_n 1, 1) := by decide +kernel
theorem dX9_goBack_18 : decode cX9_goBack 18 = .ok (.baload, 1) := by decide +kernel
theorem dX9_goBack_19 : decode cX9_goBack 19 = .ok (.ifCond .ne 6, 3) := by decide +kernel
theorem dX9_goBack_22 : decode cX9_goBack 22 = .ok (.ldc 220, 2) := by decide +kernel
theorem dX9_goBack_24 : decode cX9_goBack 24 = .ok (.ireturn, 1) := by decide +kernel
theorem dX9_goBack_25 : decode cX9_goBack 25 = .ok (.iconst 0, 1) := by decide +kernel
theorem dX9_goBack_26 : decode cX9_goBack 26 = .ok (.istore_n 2, 1) := by decide +kernel
theorem dX9_goBack_27 : decode cX9_goBack 27 = .ok (.iload_n 2, 1) := by decide +kernel
theorem dX9_goBack_28 : decode cX9_goBack 28 = .ok (.bipush 80, 2) := by decide +kernel
theorem dX9_goBack_30 : decode cX9_goBack 30 = .ok (.if_icmp .ge 26, 3) := by decide +kernel
theorem dX9_goBack_33 : decode cX9_goBack 33 = .ok (.aload_n 0, 1) := by decide +kernel
theorem dX9_goBack_34 : decode cX9_goBack 34 = .ok (.getfield 19, 3) := by decide +kernel
theorem dX9_goBack_37 : decode cX9_goBack 37 = .ok (.iload_n 2, 1) := by decide +kernel
theorem dX9_goBack_38 : decode cX9_goBack 38 = .ok (.aload_n 0, 1) := by decide +kernel
theorem dX9_goBack_39 : decode cX9_goBack 39 = .ok (.getfield 54, 3) := by decide +kernel
theorem dX9_goBack_42 : decode cX9_goBack 42 = .ok (.bipush 81, 2) := by decide +kernel
theorem dX9_goBack_44 : decode cX9_goBack 44 = .ok (.iload_n 1, 1) := by decide +kernel
theorem dX9_goBack_45 : decode cX9_goBack 45 = .ok (.imul, 1) := by decide +kernel
theorem dX9_goBack_46 : decode cX9_goBack 46 = .ok (.iload_n 2, 1) := by decide +kernel
theorem dX9_goBack_47 : decode cX9_goBack 47 = .ok (.iadd, 1) := by decide +kernel
theorem dX9_goBack_48 : decode cX9_goBack 48 = .ok (.laload, 1) := by decide +kernel
theorem dX9_goBack_49 : decode cX9_goBack 49 = .ok (.lastore, 1) := by decide +kernel
theorem dX9_goBack_50 : decode cX9_goBack 50 = .ok (.iinc 2 1, 3) := by decide +kernel
theorem dX9_goBack_53 : decode cX9_goBack 53 = .ok (.goto (-26), 3) := by decide +kernel
theorem dX9_goBack_56 : decode cX9_goBack 56 = .ok (.aload_n 0, 1) := by decide +kernel
theorem dX9_goBack_57 : decode cX9_goBack 57 = .ok (.aload_n 0, 1) := by decide +kernel
theorem dX9_goBack_58 : decode cX9_goBack 58 = .ok (.getfield 54, 3) := by decide +kernel
theorem dX9_goBack_61 : decode cX9_goBack 61 = .ok (.bipush 81, 2) := by decide +kernel
theorem dX9_goBack_63 : decode cX9_goBack 63 = .ok (.iload_n 1, 1) := by decide +kernel
theorem dX9_goBack_64 : decode cX9_goBack 64 = .ok (.imul, 1) := by decide +kernel
theorem dX9_goBack_65 : decode cX9_goBack 65 = .ok (.bipush 80, 2) := by decide +kernel
theorem dX9_goBack_67 : decode cX9_goBack 67 = .ok (.iadd, 1) := by decide +kernel
theorem dX9_goBack_68 : decode cX9_goBack 68 = .ok (.laload, 1) := by decide +kernel
theorem dX9_goBack_69 : decode cX9_goBack 69 = .ok (.putfield 241, 3) := by decide +kernel
theorem dX9_goBack_72 : decode cX9_goBack 72 = .ok (.aload_n 0, 1) := by decide +kernel
theorem dX9_goBack_73 : decode cX9_goBack 73 = .ok (.iconst 0, 1) := by decide +kernel
theorem dX9_goBack_74 : decode cX9_goBack 74 = .ok (.putfield 193, 3) := by decide +kernel
theorem dX9_goBack_77 : decode cX9_goBack 77 = .ok (.iconst 1, 1) := by decide +kernel
theorem dX9_goBack_78 : decode cX9_goBack 78 = .ok (.ireturn, 1) := by decide +kernel
theorem dJ6_bitCount_0f7a4_0 : decode cJ6_bitCount_0f7a4 0 = .ok (.iload_n 0, 1) := by decide +kernel
theorem dJ6_bitCount_0f7a4_1 : decode cJ6_bitCount_0f7a4 1 = .ok (.iload_n 0, 1) := by decide +kernel
theorem dJ6_bitCount_0f7a4_2 : decode cJ6_bitCount_0f7a4 2 = .ok (.iconst 1, 1) := by decide +kernel
theorem dJ6_bitCount_0f7a4_3 : decode cJ6_bitCount_0f7a4 3 = .ok (.iushr, 1) := by decide +kernel
theorem dJ6_bitCount_0f7a4_4 : decode cJ6_bitCount_0f7a4 4 = .ok (.ldc_w 265, 3) := by decide +kernel
theorem dJ6_bitCount_0f7a4_7 : decode cJ6_bitCount_0f7a4 7 = .ok (.iand, 1) := by decide +kernel
theorem dJ6_bitCount_0f7a4_8 : decode cJ6_bitCount_0f7a4 8 = .ok (.isub, 1) := by decide +kernel
theorem dJ6_bitCount_0f7a4_9 : decode cJ6_bitCount_0f7a4 9 = .ok (.istore_n 0, 1) := by decide +kernel
theorem dJ6_bitCount_0f7a4_10 : decode cJ6_bitCount_0f7a4 10 = .ok (.iload_n 0, 1) := by decide +kernel
theorem dJ6_bitCount_0f7a4_11 : decode cJ6_bitCount_0f7a4 11 = .ok (.ldc_w 266, 3) := by decide +kernel
theorem dJ6_bitCount_0f7a4_14 : decode cJ6_bitCount_0f7a4 14 = .ok (.iand, 1) := by decide +kernel
theorem dJ6_bitCount_0f7a4_15 : decode cJ6_bitCount_0f7a4 15 = .ok (.iload_n 0, 1) := by decide +kernel
theorem dJ6_bitCount_0f7a4_16 : decode cJ6_bitCount_0f7a4 16 = .ok (.iconst 2, 1) := by decide +kernel
theorem dJ6_bitCount_0f7a4_17 : decode cJ6_bitCount_0f7a4 17 = .ok (.iushr, 1) := by decide +kernel
theorem dJ6_bitCount_0f7a4_18 : decode cJ6_bitCount_0f7a4 18 = .ok (.ldc_w 266, 3) := by decide +kernel
theorem dJ6_bitCount_0f7a4_21 : decode cJ6_bitCount_0f7a4 21 = .ok (.iand, 1) := by decide +kernel
theorem dJ6_bitCount_0f7a4_22 : decode cJ6_bitCount_0f7a4 22 = .ok (.iadd, 1) := by decide +kernel
theorem dJ6_bitCount_0f7a4_23 : decode cJ6_bitCount_0f7a4 23 = .ok (.istore_n 0, 1) := by decide +kernel
theorem dJ6_bitCount_0f7a4_24 : decode cJ6_bitCount_0f7a4 24 = .ok (.iload_n 0, 1) := by decide +kernel
theorem dJ6_bitCount_0f7a4_25 : decode cJ6_bitCount_0f7a4 25 = .ok (.iload_n 0, 1) := by decide +kernel
theorem dJ6_bitCount_0f7a4_26 : decode cJ6_bitCount_0f7a4 26 = .ok (.iconst 4, 1) := by decide +kernel
theorem dJ6_bitCount_0f7a4_27 : decode cJ6_bitCount_0f7a4 27 = .ok (.iushr, 1) := by decide +kernel
theorem dJ6_bitCount_0f7a4_28 : decode cJ6_bitCount_0f7a4 28 = .ok (.iadd, 1) := by decide +kernel
theorem dJ6_bitCount_0f7a4_29 : decode cJ6_bitCount_0f7a4 29 = .ok (.ldc_w 267, 3) := by decide +kernel
theorem dJ6_bitCount_0f7a4_32 : decode cJ6_bitCount_0f7a4 32 = .ok (.iand, 1) := by decide +kernel
theorem dJ6_bitCount_0f7a4_33 : decode cJ6_bitCount_0f7a4 33 = .ok (.istore_n 0, 1) := by decide +kernel
theorem dJ6_bitCount_0f7a4_34 : decode cJ6_bitCount_0f7a4 34 = .ok (.iload_n 0, 1) := by decide +kernel
theorem dJ6_bitCount_0f7a4_35 : decode cJ6_bitCount_0f7a4 35 = .ok (.iload_n 0, 1) := by decide +kernel
theorem dJ6_bitCount_0f7a4_36 : decode cJ6_bitCount_0f7a4 36 = .ok (.bipush 8, 2) := by decide +kernel
theorem dJ6_bitCount_0f7a4_38 : decode cJ6_bitCount_0f7a4 38 = .ok (.iushr, 1) := by decide +kernel
theorem dJ6_bitCount_0f7a4_39 : decode cJ6_bitCount_0f7a4 39 = .ok (.iadd, 1) := by decide +kernel
theorem dJ6_bitCount_0f7a4_40 : decode cJ6_bitCount_0f7a4 40 = .ok (.istore_n 0, 1) := by decide +kernel
theorem dJ6_bitCount_0f7a4_41 : decode cJ6_bitCount_0f7a4 41 = .ok (.iload_n 0, 1) := by decide +kernel
theorem dJ6_bitCount_0f7a4_42 : decode cJ6_bitCount_0f7a4 42 = .ok (.iload_n 0, 1) := by decide +kernel
theorem dJ6_bitCount_0f7a4_43 : decode cJ6_bitCount_0f7a4 43 = .ok (.bipush 16, 2) := by decide +kernel
theorem dJ6_bitCount_0f7a4_45 : decode cJ6_bitCount_0f7a4 45 = .ok (.iushr, 1) := by decide +kernel
theorem dJ6_bitCount_0f7a4_46 : decode cJ6_bitCount_0f7a4 46 = .ok (.iadd, 1) := by decide +kernel
theorem dJ6_bitCount_0f7a4_47 : decode cJ6_bitCount_0f7a4 47 = .ok (.istore_n 0, 1) := by decide +kernel
theorem dJ6_bitCount_0f7a4_48 : decode cJ6_bitCount_0f7a4 48 = .ok (.iload_n 0, 1) := by decide +kernel
theorem dJ6_bitCount_0f7a4_49 : decode cJ6_bitCount_0f7a4 49 = .ok (.bipush 63, 2) := by decide +kernel
theorem dJ6_bitCount_0f7a4_51 : decode cJ6_bitCount_0f7a4 51 = .ok (.iand, 1) := by decide +kernel
theorem dJ6_bitCount_0f7a4_52 : decode cJ6_bitCount_0f7a4 52 = .ok (.ireturn, 1) := by decide +kernel
theorem dJ13_bitCount_95d88_0 : decode cJ13_bitCount_95d88 0 = .ok (.lload_n 0, 1) := by decide +kernel
theorem dJ13_bitCount_95d88_1 : decode cJ13_bitCount_95d88 1 = .ok (.lload_n 0, 1) := by decide +kernel
theorem dJ13_bitCount_95d88_2 : decode cJ13_bitCount_95d88 2 = .ok (.iconst 1, 1) := by decide +kernel
theorem dJ13_bitCount_95d88_3 : decode cJ13_bitCount_95d88 3 = .ok (.lushr, 1) := by decide +kernel
theorem dJ13_bitCount_95d88_4 : decode cJ13_bitCount_95d88 4 = .ok (.ldc2_w 314, 3) := by decide +kernel
theorem dJ13_bitCount_95d88_7 : decode cJ13_bitCount_95d88 7 = .ok (.land, 1) := by decide +kernel
theorem dJ13_bitCount_95d88_8 : decode cJ13_bitCount_95d88 8 = .ok (.lsub, 1) := by decide +kernel
theorem dJ13_bitCount_95d88_9 : decode cJ13_bitCount_95d88 9 = .ok (.lstore_n 0, 1) := by decide +kernel
theorem dJ13_bitCount_95d88_10 : decode cJ13_bitCount_95d88 10 = .ok (.lload_n 0, 1) := by decide +kernel
theorem dJ13_bitCount_95d88_11 : decode cJ13_bitCount_95d88 11 = .ok (.ldc2_w 316, 3) := by decide +kernel
theorem dJ13_bitCount_95d88_14 : decode cJ13_bitCount_95d88 14 = .ok (.land, 1) := by decide +kernel
theorem dJ13_bitCount_95d88_15 : decode cJ13_bitCount_95d88 15 = .ok (.lload_n 0, 1) := by decide +kernel
theorem dJ13_bitCount_95d88_16 : decode cJ13_bitCount_95d88 16 = .ok (.iconst 2, 1) := by decide +kernel
theorem dJ13_bitCount_95d88_17 : decode cJ13_bitCount_95d88 17 = .ok (.lushr, 1) := by decide +kernel
theorem dJ13_bitCount_95d88_18 : decode cJ13_bitCount_95d88 18 = .ok (.ldc2_w 316, 3) := by decide +kernel
theorem dJ13_bitCount_95d88_21 : decode cJ13_bitCount_95d88 21 = .ok (.land, 1) := by decide +kernel
theorem dJ13_bitCount_95d88_22 : decode cJ13_bitCount_95d88 22 = .ok (.ladd, 1) := by decide +kernel
theorem dJ13_bitCount_95d88_23 : decode cJ13_bitCount_95d88 23 = .ok (.lstore_n 0, 1) := by decide +kernel
theorem dJ13_bitCount_95d88_24 : decode cJ13_bitCount_95d88 24 = .ok (.lload_n 0, 1) := by decide +kernel
theorem dJ13_bitCount_95d88_25 : decode cJ13_bitCount_95d88 25 = .ok (.lload_n 0, 1) := by decide +kernel
theorem dJ13_bitCount_95d88_26 : decode cJ13_bitCount_95d88 26 = .ok (.iconst 4, 1) := by decide +kernel
theorem dJ13_bitCount_95d88_27 : decode cJ13_bitCount_95d88 27 = .ok (.lushr, 1) := by decide +kernel
theorem dJ13_bitCount_95d88_28 : decode cJ13_bitCount_95d88 28 = .ok (.ladd, 1) := by decide +kernel
theorem dJ13_bitCount_95d88_29 : decode cJ13_bitCount_95d88 29 = .ok (.ldc2_w 318, 3) := by decide +kernel
theorem dJ13_bitCount_95d88_32 : decode cJ13_bitCount_95d88 32 = .ok (.land, 1) := by decide +kernel
theorem dJ13_bitCount_95d88_33 : decode cJ13_bitCount_95d88 33 = .ok (.lstore_n 0, 1) := by decide +kernel
theorem dJ13_bitCount_95d88_34 : decode cJ13_bitCount_95d88 34 = .ok (.lload_n 0, 1) := by decide +kernel
theorem dJ13_bitCount_95d88_35 : decode cJ13_bitCount_95d88 35 = .ok (.lload_n 0, 1) := by decide +kernel
theorem dJ13_bitCount_95d88_36 : decode cJ13_bitCount_95d88 36 = .ok (.bipush 8, 2) := by decide +kernel
theorem dJ13_bitCount_95d88_38 : decode cJ13_bitCount_95d88 38 = .ok (.lushr, 1) := by decide +kernel
theorem dJ13_bitCount_95d88_39 : decode cJ13_bitCount_95d88 39 = .ok (.ladd, 1) := by decide +kernel
theorem dJ13_bitCount_95d88_40 : decode cJ13_bitCount_95d88 40 = .ok (.lstore_n 0, 1) := by decide +kernel
theorem dJ13_bitCount_95d88_41 : decode cJ13_bitCount_95d88 41 = .ok (.lload_n 0, 1) := by decide +kernel
theorem dJ13_bitCount_95d88_42 : decode cJ13_bitCount_95d88 42 = .ok (.lload_n 0, 1) := by decide +kernel
theorem dJ13_bitCount_95d88_43 : decode cJ13_bitCount_95d88 43 = .ok (.bipush 16, 2) := by decide +kernel
theorem dJ13_bitCount_95d88_45 : decode cJ13_bitCount_95d88 45 = .ok (.lushr, 1) := by decide +kernel
theorem dJ13_bitCount_95d88_46 : decode cJ13_bitCount_95d88 46 = .ok (.ladd, 1) := by decide +kernel
theorem dJ13_bitCount_95d88_47 : decode cJ13_bitCount_95d88 47 = .ok (.lstore_n 0, 1) := by decide +kernel
theorem dJ13_bitCount_95d88_48 : decode cJ13_bitCount_95d88 48 = .ok (.lload_n 0, 1) := by decide +kernel
theorem dJ13_bitCount_95d88_49 : decode cJ13_bitCount_95d88 49 = .ok (.lload_n 0, 1) := by decide +kernel
theorem dJ13_bitCount_95d88_50 : decode cJ13_bitCount_95d88 50 = .ok (.bipush 32, 2) := by decide +kernel
theorem dJ13_bitCount_95d88_52 : decode cJ13_bitCount_95d88 52 = .ok (.lushr, 1) := by decide +kernel
theorem dJ13_bitCount_95d88_53 : decode cJ13_bitCount_95d88 53 = .ok (.ladd, 1) := by decide +kernel
theorem dJ13_bitCount_95d88_54 : decode cJ13_bitCount_95d88 54 = .ok (.lstore_n 0, 1) := by decide +kernel
theorem dJ13_bitCount_95d88_55 : decode cJ13_bitCount_95d88 55 = .ok (.lload_n 0, 1) := by decide +kernel
theorem dJ13_bitCount_95d88_56 : decode cJ13_bitCount_95d88 56 = .ok (.l2i, 1) := by decide +kernel
theorem dJ13_bitCount_95d88_57 : decode cJ13_bitCount_95d88 57 = .ok (.bipush 127, 2) := by decide +kernel
theorem dJ13_bitCount_95d88_59 : decode cJ13_bitCount_95d88 59 = .ok (.iand, 1) := by decide +kernel
theorem dJ13_bitCount_95d88_60 : decode cJ13_bitCount_95d88 60 = .ok (.ireturn, 1) := by decide +kernel
theorem dJ9_abs_0f7a4_0 : decode cJ9_abs_0f7a4 0 = .ok (.iload_n 0, 1) := by decide +kernel
theorem dJ9_abs_0f7a4_1 : decode cJ9_abs_0f7a4 1 = .ok (.ifCond .ge 8, 3) := by decide +kernel
theorem dJ9_abs_0f7a4_4 : decode cJ9_abs_0f7a4 4 = .ok (.iload_n 0, 1) := by decide +kernel
theorem dJ9_abs_0f7a4_5 : decode cJ9_abs_0f7a4 5 = .ok (.ineg, 1) := by decide +kernel
theorem dJ9_abs_0f7a4_6 : decode cJ9_abs_0f7a4 6 = .ok (.goto 4, 3) := by decide +kernel
theorem dJ9_abs_0f7a4_9 : decode cJ9_abs_0f7a4 9 = .ok (.iload_n 0, 1) := by decide +kernel
theorem dJ9_abs_0f7a4_10 : decode cJ9_abs_0f7a4 10 = .ok (.ireturn, 1) := by decide +kernel
theorem dJ9_max_7cf53_0 : decode cJ9_max_7cf53 0 = .ok (.iload_n 0, 1) := by decide +kernel
theorem dJ9_max_7cf53_1 : decode cJ9_max_7cf53 1 = .ok (.iload_n 1, 1) := by decide +kernel
theorem dJ9_max_7cf53_2 : decode cJ9_max_7cf53 2 = .ok (.if_icmp .lt 7, 3) := by decide +kernel
theorem dJ9_max_7cf53_5 : decode cJ9_max_7cf53 5 = .ok (.iload_n 0, 1) := by decide +kernel
theorem dJ9_max_7cf53_6 : decode cJ9_max_7cf53 6 = .ok (.goto 4, 3) := by decide +kernel
theorem dJ9_max_7cf53_9 : decode cJ9_max_7cf53 9 = .ok (.iload_n 1, 1) := by decide +kernel
theorem dJ9_max_7cf53_10 : decode cJ9_max_7cf53 10 = .ok (.ireturn, 1) := by decide +kernel
theorem dJ9_min_7cf53_0 : decode cJ9_min_7cf53 0 = .ok (.iload_n 0, 1) := by decide +kernel
theorem dJ9_min_7cf53_1 : decode cJ9_min_7cf53 1 = .ok (.iload_n 1, 1) := by decide +kernel
theorem dJ9_min_7cf53_2 : decode cJ9_min_7cf53 2 = .ok (.if_icmp .gt 7, 3) := by decide +kernel
theorem dJ9_min_7cf53_5 : decode cJ9_min_7cf53 5 = .ok (.iload_n 0, 1) := by decide +kernel
theorem dJ9_min_7cf53_6 : decode cJ9_min_7cf53 6 = .ok (.goto 4, 3) := by decide +kernel
theorem dJ9_min_7cf53_9 : decode cJ9_min_7cf53 9 = .ok (.iload_n 1, 1) := by decide +kernel
theorem dJ9_min_7cf53_10 : decode cJ9_min_7cf53 10 = .ok (.ireturn, 1) := by decide +kernel
theorem dJ7_fill_53178_0 : decode cJ7_fill_53178 0 = .ok (.iconst 0, 1) := by decide +kernel
theorem dJ7_fill_53178_1 : decode cJ7_fill_53178 1 = .ok (.istore_n 2, 1) := by decide +kernel
theorem dJ7_fill_53178_2 : decode cJ7_fill_53178 2 = .ok (.aload_n 0, 1) := by decide +kernel
theorem dJ7_fill_53178_3 : decode cJ7_fill_53178 3 = .ok (.arraylength, 1) := by decide +kernel
theorem dJ7_fill_53178_4 : decode cJ7_fill_53178 4 = .ok (.istore_n 3, 1) := by decide +kernel
theorem dJ7_fill_53178_5 : decode cJ7_fill_53178 5 = .ok (.iload_n 2, 1) := by decide +kernel
theorem dJ7_fill_53178_6 : decode cJ7_fill_53178 6 = .ok (.iload_n 3, 1) := by decide +kernel
theorem dJ7_fill_53178_7 : decode cJ7_fill_53178 7 = .ok (.if_icmp .ge 13, 3) := by decide +kernel
theorem dJ7_fill_53178_10 : decode cJ7_fill_53178 10 = .ok (.aload_n 0, 1) := by decide +kernel
theorem dJ7_fill_53178_11 : decode cJ7_fill_53178 11 = .ok (.iload_n 2, 1) := by decide +kernel
theorem dJ7_fill_53178_12 : decode cJ7_fill_53178 12 = .ok (.iload_n 1, 1) := by decide +kernel
theorem dJ7_fill_53178_13 : decode cJ7_fill_53178 13 = .ok (.iastore, 1) := by decide +kernel
theorem dJ7_fill_53178_14 : decode cJ7_fill_53178 14 = .ok (.iinc 2 1, 3) := by decide +kernel
theorem dJ7_fill_53178_17 : decode cJ7_fill_53178 17 = .ok (.goto (-12), 3) := by decide +kernel
theorem dJ7_fill_53178_20 : decode cJ7_fill_53178 20 = .ok (.return_, 1) := by decide +kernel
theorem dL_law_0 : decode cL_law 0 = .ok (.new 7, 3) := by decide +kernel
theorem dL_law_3 : decode cL_law 3 = .ok (.dup, 1) := by decide +kernel
theorem dL_law_4 : decode cL_law 4 = .ok (.invokespecial 9, 3) := by decide +kernel
theorem dL_law_7 : decode cL_law 7 = .ok (.astore_n 1, 1) := by decide +kernel
theorem dL_law_8 : decode cL_law 8 = .ok (.new 10, 3) := by decide +kernel
theorem dL_law_11 : decode cL_law 11 = .ok (.dup, 1) := by decide +kernel
theorem dL_law_12 : decode cL_law 12 = .ok (.invokespecial 12, 3) := by decide +kernel
theorem dL_law_15 : decode cL_law 15 = .ok (.astore_n 2, 1) := by decide +kernel
theorem dL_law_16 : decode cL_law 16 = .ok (.iconst 0, 1) := by decide +kernel
theorem dL_law_17 : decode cL_law 17 = .ok (.istore_n 3, 1) := by decide +kernel
theorem dL_law_18 : decode cL_law 18 = .ok (.iload_n 3, 1) := by decide +kernel
theorem dL_law_19 : decode cL_law 19 = .ok (.aload_n 0, 1) := by decide +kernel
theorem dL_law_20 : decode cL_law 20 = .ok (.arraylength, 1) := by decide +kernel
theorem dL_law_21 : decode cL_law 21 = .ok (.iconst 3, 1) := by decide +kernel
theorem dL_law_22 : decode cL_law 22 = .ok (.isub, 1) := by decide +kernel
theorem dL_law_23 : decode cL_law 23 = .ok (.if_icmp .gt 1098, 3) := by decide +kernel
theorem dL_law_26 : decode cL_law 26 = .ok (.aload_n 0, 1) := by decide +kernel
theorem dL_law_27 : decode cL_law 27 = .ok (.iload_n 3, 1) := by decide +kernel
theorem dL_law_28 : decode cL_law 28 = .ok (.iaload, 1) := by decide +kernel
theorem dL_law_29 : decode cL_law 29 = .ok (.bipush 63, 2) := by decide +kernel
theorem dL_law_31 : decode cL_law 31 = .ok (.iand, 1) := by decide +kernel
theorem dL_law_32 : decode cL_law 32 = .ok (.tableswitch 1083 0 36 #[164, 187, 200, 213, 236, 269, 302, 325, 348, 397, 430, 479, 528, 561, 574, 597, 620, 633, 656, 679, 712, 725, 758, 781, 804, 817, 840, 873, 896, 909, 932, 955, 988, 1001, 1014, 1037, 1060], 164) := by decide +kernel
theorem dL_law_196 : decode cL_law 196 = .ok (.aload_n 1, 1) := by decide +kernel
theorem dL_law_197 : decode cL_law 197 = .ok (.aload_n 0, 1) := by decide +kernel
theorem dL_law_198 : decode cL_law 198 = .ok (.iload_n 3, 1) := by decide +kernel
theorem dL_law_199 : decode cL_law 199 = .ok (.iconst 1, 1) := by decide +kernel
theorem dL_law_200 : decode cL_law 200 = .ok (.iadd, 1) := by decide +kernel
theorem dL_law_201 : decode cL_law 201 = .ok (.iaload, 1) := by decide +kernel
theorem dL_law_202 : decode cL_law 202 = .ok (.invokevirtual 13, 3) := by decide +kernel
theorem dL_law_205 : decode cL_law 205 = .ok (.aload_n 2, 1) := by decide +kernel
theorem dL_law_206 : decode cL_law 206 = .ok (.aload_n 0, 1) := by decide +kernel
theorem dL_law_207 : decode cL_law 207 = .ok (.iload_n 3, 1) := by decide +kernel
theorem dL_law_208 : decode cL_law 208 = .ok (.iconst 1, 1) := by decide +kernel
theorem dL_law_209 : decode cL_law 209 = .ok (.iadd, 1) := by decide +kernel
theorem dL_law_210 : decode cL_law 210 = .ok (.iaload, 1) := by decide +kernel
theorem dL_law_211 : decode cL_law 211 = .ok (.invokevirtual 17, 3) := by decide +kernel
theorem dL_law_214 : decode cL_law 214 = .ok (.if_icmp .eq 901, 3) := by decide +kernel
theorem dL_law_217 : decode cL_law 217 = .ok (.iconst 0, 1) := by decide +kernel
theorem dL_law_218 : decode cL_law 218 = .ok (.ireturn, 1) := by decide +kernel
theorem dL_law_219 : decode cL_law 219 = .ok (.aload_n 1, 1) := by decide +kernel
theorem dL_law_220 : decode cL_law 220 = .ok (.invokevirtual 18, 3) := by decide +kernel
theorem dL_law_223 : decode cL_law 223 = .ok (.aload_n 2, 1) := by decide +kernel
theorem dL_law_224 : decode cL_law 224 = .ok (.invokevirtual 22, 3) := by decide +kernel
theorem dL_law_227 : decode cL_law 227 = .ok (.if_icmp .eq 888, 3) := by decide +kernel
theorem dL_law_230 : decode cL_law 230 = .ok (.iconst 0, 1) := by decide +kernel
theorem dL_law_231 : decode cL_law 231 = .ok (.ireturn, 1) := by decide +kernel
theorem dL_law_232 : decode cL_law 232 = .ok (.aload_n 1, 1) := by decide +kernel
theorem dL_law_233 : decode cL_law 233 = .ok (.invokevirtual 23, 3) := by decide +kernel
theorem dL_law_236 : decode cL_law 236 = .ok (.aload_n 2, 1) := by decide +kernel
theorem dL_law_237 : decode cL_law 237 = .ok (.invokevirtual 26, 3) := by decide +kernel
theorem dL_law_240 : decode cL_law 240 = .ok (.if_icmp .eq 875, 3) := by decide +kernel
theorem dL_law_243 : decode cL_law 243 = .ok (.iconst 0, 1) := by decide +kernel
theorem dL_law_244 : decode cL_law 244 = .ok (.ireturn, 1) := by decide +kernel
theorem dL_law_245 : decode cL_law 245 = .ok (.aload_n 1, 1) := by decide +kernel
theorem dL_law_246 : decode cL_law 246 = .ok (.aload_n 0, 1) := by decide +kernel
theorem dL_law_247 : decode cL_law 247 = .ok (.iload_n 3, 1) := by decide +kernel
theorem dL_law_248 : decode cL_law 248 = .ok (.iconst 1, 1) := by decide +kernel
theorem dL_law_249 : decode cL_law 249 = .ok (.iadd, 1) := by decide +kernel
theorem dL_law_250 : decode cL_law 250 = .ok (.iaload, 1) := by decide +kernel
theorem dL_law_251 : decode cL_law 251 = .ok (.invokevirtual 27, 3) := by decide +kernel
theorem dL_law_254 : decode cL_law 254 = .ok (.aload_n 2, 1) := by decide +kernel
theorem dL_law_255 : decode cL_law 255 = .ok (.aload_n 0, 1) := by decide +kernel
theorem dL_law_256 : decode cL_law 256 = .ok (.iload_n 3, 1) := by decide +kernel
theorem dL_law_257 : decode cL_law 257 = .ok (.iconst 1, 1) := by decide +kernel
theorem dL_law_258 : decode cL_law 258 = .ok (.iadd, 1) := by decide +kernel
theorem dL_law_259 : decode cL_law 259 = .ok (.iaload, 1) := by decide +kernel
theorem dL_law_260 : decode cL_law 260 = .ok (.invokevirtual 30, 3) := by decide +kernel
theorem dL_law_263 : decode cL_law 263 = .ok (.if_icmp .eq 852, 3) := by decide +kernel
theorem dL_law_266 : decode cL_law 266 = .ok (.iconst 0, 1) := by decide +kernel
theorem dL_law_267 : decode cL_law 267 = .ok (.ireturn, 1) := by decide +kernel
theorem dL_law_268 : decode cL_law 268 = .ok (.aload_n 1, 1) := by decide +kernel
theorem dL_law_269 : decode cL_law 269 = .ok (.aload_n 0, 1) := by decide +kernel
theorem dL_law_270 : decode cL_law 270 = .ok (.iload_n 3, 1) := by decide +kernel
theorem dL_law_271 : decode cL_law 271 = .ok (.iconst 1, 1) := by decide +kernel
theorem dL_law_272 : decode cL_law 272 = .ok (.iadd, 1) := by decide +kernel
theorem dL_law_273 : decode cL_law 273 = .ok (.iaload, 1) := by decide +kernel
theorem dL_law_274 : decode cL_law 274 = .ok (.aload_n 0, 1) := by decide +kernel
theorem dL_law_275 : decode cL_law 275 = .ok (.iload_n 3, 1) := by decide +kernel
theorem dL_law_276 : decode cL_law 276 = .ok (.iconst 2, 1) := by decide +kernel
theorem dL_law_277 : decode cL_law 277 = .ok (.iadd, 1) := by decide +kernel
theorem dL_law_278 : decode cL_law 278 = .ok (.iaload, 1) := by decide +kernel
theorem dL_law_279 : decode cL_law 279 = .ok (.invokevirtual 31, 3) := by decide +kernel
theorem dL_law_282 : decode cL_law 282 = .ok (.aload_n 2, 1) := by decide +kernel
theorem dL_law_283 : decode cL_law 283 = .ok (.aload_n 0, 1) := by decide +kernel
theorem dL_law_284 : decode cL_law 284 = .ok (.iload_n 3, 1) := by decide +kernel
theorem dL_law_285 : decode cL_law 285 = .ok (.iconst 1, 1) := by decide +kernel
theorem dL_law_286 : decode cL_law 286 = .ok (.iadd, 1) := by decide +kernel
theorem dL_law_287 : decode cL_law 287 = .ok (.iaload, 1) := by decide +kernel
theorem dL_law_288 : decode cL_law 288 = .ok (.aload_n 0, 1) := by decide +kernel
theorem dL_law_289 : decode cL_law 289 = .ok (.iload_n 3, 1) := by decide +kernel
theorem dL_law_290 : decode cL_law 290 = .ok (.iconst 2, 1) := by decide +kernel
theorem dL_law_291 : decode cL_law 291 = .ok (.iadd, 1) := by decide +kernel
theorem dL_law_292 : decode cL_law 292 = .ok (.iaload, 1) := by decide +kernel
theorem dL_law_293 : decode cL_law 293 = .ok (.invokevirtual 35, 3) := by decide +kernel
theorem dL_law_296 : decode cL_law 296 = .ok (.if_icmp .eq 819, 3) := by decide +kernel
theorem dL_law_299 : decode cL_law 299 = .ok (.iconst 0, 1) := by decide +kernel
theorem dL_law_300 : decode cL_law 300 = .ok (.ireturn, 1) := by decide +kernel
theorem dL_law_301 : decode cL_law 301 = .ok (.aload_n 1, 1) := by decide +kernel
theorem dL_law_302 : decode cL_law 302 = .ok (.aload_n 0, 1) := by decide +kernel
theorem dL_law_303 : decode cL_law 303 = .ok (.iload_n 3, 1) := by decide +kernel
theorem dL_law_304 : decode cL_law 304 = .ok (.iconst 1, 1) := by decide +kernel
theorem dL_law_305 : decode cL_law 305 = .ok (.iadd, 1) := by decide +kernel
theorem dL_law_306 : decode cL_law 306 = .ok (.iaload, 1) := by decide +kernel
theorem dL_law_307 : decode cL_law 307 = .ok (.aload_n 0, 1) := by decide +kernel
theorem dL_law_308 : decode cL_law 308 = .ok (.iload_n 3, 1) := by decide +kernel
theorem dL_law_309 : decode cL_law 309 = .ok (.iconst 2, 1) := by decide +kernel
theorem dL_law_310 : decode cL_law 310 = .ok (.iadd, 1) := by decide +kernel
theorem dL_law_311 : decode cL_law 311 = .ok (.iaload, 1) := by decide +kernel
theorem dL_law_312 : decode cL_law 312 = .ok (.invokevirtual 36, 3) := by decide +kernel
theorem dL_law_315 : decode cL_law 315 = .ok (.aload_n 2, 1) := by decide +kernel
theorem dL_law_316 : decode cL_law 316 = .ok (.aload_n 0, 1) := by decide +kernel
theorem dL_law_317 : decode cL_law 317 = .ok (.iload_n 3, 1) := by decide +kernel
theorem dL_law_318 : decode cL_law 318 = .ok (.iconst 1, 1) := by decide +kernel
theorem dL_law_319 : decode cL_law 319 = .ok (.iadd, 1) := by decide +kernel
theorem dL_law_320 : decode cL_law 320 = .ok (.iaload, 1) := by decide +kernel
theorem dL_law_321 : decode cL_law 321 = .ok (.aload_n 0, 1) := by decide +kernel
theorem dL_law_322 : decode cL_law 322 = .ok (.iload_n 3, 1) := by decide +kernel
theorem dL_law_323 : decode cL_law 323 = .ok (.iconst 2, 1) := by decide +kernel
theorem dL_law_324 : decode cL_law 324 = .ok (.iadd, 1) := by decide +kernel
theorem dL_law_325 : decode cL_law 325 = .ok (.iaload, 1) := by decide +kernel
theorem dL_law_326 : decode cL_law 326 = .ok (.invokevirtual 39, 3) := by decide +kernel
theorem dL_law_329 : decode cL_law 329 = .ok (.if_icmp .eq 786, 3) := by decide +kernel
theorem dL_law_332 : decode cL_law 332 = .ok (.iconst 0, 1) := by decide +kernel
theorem dL_law_333 : decode cL_law 333 = .ok (.ireturn, 1) := by decide +kernel
theorem dL_law_334 : decode cL_law 334 = .ok (.aload_n 1, 1) := by decide +kernel
theorem dL_law_335 : decode cL_law 335 = .ok (.aload_n 0, 1) := by decide +kernel
theorem dL_law_336 : decode cL_law 336 = .ok (.iload_n 3, 1) := by decide +kernel
theorem dL_law_337 : decode cL_law 337 = .ok (.iconst 1, 1) := by decide +kernel
theorem dL_law_338 : decode cL_law 338 = .ok (.iadd, 1) := by decide +kernel
theorem dL_law_339 : decode cL_law 339 = .ok (.iaload, 1) := by decide +kernel
theorem dL_law_340 : decode cL_law 340 = .ok (.invokevirtual 40, 3) := by decide +kernel
theorem dL_law_343 : decode cL_law 343 = .ok (.aload_n 2, 1) := by decide +kernel
theorem dL_law_344 : decode cL_law 344 = .ok (.aload_n 0, 1) := by decide +kernel
theorem dL_law_345 : decode cL_law 345 = .ok (.iload_n 3, 1) := by decide +kernel
theorem dL_law_346 : decode cL_law 346 = .ok (.iconst 1, 1) := by decide +kernel
theorem dL_law_347 : decode cL_law 347 = .ok (.iadd, 1) := by decide +kernel
theorem dL_law_348 : decode cL_law 348 = .ok (.iaload, 1) := by decide +kernel
theorem dL_law_349 : decode cL_law 349 = .ok (.invokevirtual 43, 3) := by decide +kernel
theorem dL_law_352 : decode cL_law 352 = .ok (.if_icmp .eq 763, 3) := by decide +kernel
theorem dL_law_355 : decode cL_law 355 = .ok (.iconst 0, 1) := by decide +kernel
theorem dL_law_356 : decode cL_law 356 = .ok (.ireturn, 1) := by decide +kernel
theorem dL_law_357 : decode cL_law 357 = .ok (.aload_n 1, 1) := by decide +kernel
theorem dL_law_358 : decode cL_law 358 = .ok (.aload_n 0, 1) := by decide +kernel
theorem dL_law_359 : decode cL_law 359 = .ok (.iload_n 3, 1) := by decide +kernel
theorem dL_law_360 : decode cL_law 360 = .ok (.iconst 1, 1) := by decide +kernel
theorem dL_law_361 : decode cL_law 361 = .ok (.iadd, 1) := by decide +kernel
theorem dL_law_362 : decode cL_law 362 = .ok (.iaload, 1) := by decide +kernel
theorem dL_law_363 : decode cL_law 363 = .ok (.invokevirtual 44, 3) := by decide +kernel
theorem dL_law_366 : decode cL_law 366 = .ok (.aload_n 2, 1) := by decide +kernel
theorem dL_law_367 : decode cL_law 367 = .ok (.aload_n 0, 1) := by decide +kernel
theorem dL_law_368 : decode cL_law 368 = .ok (.iload_n 3, 1) := by decide +kernel
theorem dL_law_369 : decode cL_law 369 = .ok (.iconst 1, 1) := by decide +kernel
theorem dL_law_370 : decode cL_law 370 = .ok (.iadd, 1) := by decide +kernel
theorem dL_law_371 : decode cL_law 371 = .ok (.iaload, 1) := by decide +kernel
theorem dL_law_372 : decode cL_law 372 = .ok (.invokevirtual 47, 3) := by decide +kernel
theorem dL_law_375 : decode cL_law 375 = .ok (.if_icmp .eq 740, 3) := by decide +kernel
theorem dL_law_378 : decode cL_law 378 = .ok (.iconst 0, 1) := by decide +kernel
theorem dL_law_379 : decode cL_law 379 = .ok (.ireturn, 1) := by decide +kernel
theorem dL_law_380 : decode cL_law 380 = .ok (.aload_n 1, 1) := by decide +kernel
theorem dL_law_381 : decode cL_law 381 = .ok (.aload_n 0, 1) := by decide +kernel
theorem dL_law_382 : decode cL_law 382 = .ok (.iload_n 3, 1) := by decide +kernel
theorem dL_law_383 : decode cL_law 383 = .ok (.iconst 1, 1) := by decide +kernel
theorem dL_law_384 : decode cL_law 384 = .ok (.iadd, 1) := by decide +kernel
theorem dL_law_385 : decode cL_law 385 = .ok (.iaload, 1) := by decide +kernel
theorem dL_law_386 : decode cL_law 386 = .ok (.aload_n 0, 1) := by decide +kernel
theorem dL_law_387 : decode cL_law 387 = .ok (.iload_n 3, 1) := by decide +kernel
theorem dL_law_388 : decode cL_law 388 = .ok (.iconst 2, 1) := by decide +kernel
theorem dL_law_389 : decode cL_law 389 = .ok (.iadd, 1) := by decide +kernel
theorem dL_law_390 : decode cL_law 390 = .ok (.iaload, 1) := by decide +kernel
theorem dL_law_391 : decode cL_law 391 = .ok (.ifCond .eq 7, 3) := by decide +kernel
theorem dL_law_394 : decode cL_law 394 = .ok (.iconst 1, 1) := by decide +kernel
theorem dL_law_395 : decode cL_law 395 = .ok (.goto 4, 3) := by decide +kernel
theorem dL_law_398 : decode cL_law 398 = .ok (.iconst 0, 1) := by decide +kernel
theorem dL_law_399 : decode cL_law 399 = .ok (.invokevirtual 48, 3) := by decide +kernel
theorem dL_law_402 : decode cL_law 402 = .ok (.aload_n 2, 1) := by decide +kernel
theorem dL_law_403 : decode cL_law 403 = .ok (.aload_n 0, 1) := by decide +kernel
theorem dL_law_404 : decode cL_law 404 = .ok (.iload_n 3, 1) := by decide +kernel
theorem dL_law_405 : decode cL_law 405 = .ok (.iconst 1, 1) := by decide +kernel
theorem dL_law_406 : decode cL_law 406 = .ok (.iadd, 1) := by decide +kernel
theorem dL_law_407 : decode cL_law 407 = .ok (.iaload, 1) := by decide +kernel
theorem dL_law_408 : decode cL_law 408 = .ok (.aload_n 0, 1) := by decide +kernel
theorem dL_law_409 : decode cL_law 409 = .ok (.iload_n 3, 1) := by decide +kernel
theorem dL_law_410 : decode cL_law 410 = .ok (.iconst 2, 1) := by decide +kernel
theorem dL_law_411 : decode cL_law 411 = .ok (.iadd, 1) := by decide +kernel
theorem dL_law_412 : decode cL_law 412 = .ok (.iaload, 1) := by decide +kernel
theorem dL_law_413 : decode cL_law 413 = .ok (.ifCond .eq 7, 3) := by decide +kernel
theorem dL_law_416 : decode cL_law 416 = .ok (.iconst 1, 1) := by decide +kernel
theorem dL_law_417 : decode cL_law 417 = .ok (.goto 4, 3) := by decide +kernel
theorem dL_law_420 : decode cL_law 420 = .ok (.iconst 0, 1) := by decide +kernel
theorem dL_law_421 : decode cL_law 421 = .ok (.invokevirtual 52, 3) := by decide +kernel
theorem dL_law_424 : decode cL_law 424 = .ok (.if_icmp .eq 691, 3) := by decide +kernel
theorem dL_law_427 : decode cL_law 427 = .ok (.iconst 0, 1) := by decide +kernel
theorem dL_law_428 : decode cL_law 428 = .ok (.ireturn, 1) := by decide +kernel
theorem dL_law_429 : decode cL_law 429 = .ok (.aload_n 1, 1) := by decide +kernel
theorem dL_law_430 : decode cL_law 430 = .ok (.aload_n 0, 1) := by decide +kernel
theorem dL_law_431 : decode cL_law 431 = .ok (.iload_n 3, 1) := by decide +kernel
theorem dL_law_432 : decode cL_law 432 = .ok (.iconst 1, 1) := by decide +kernel
theorem dL_law_433 : decode cL_law 433 = .ok (.iadd, 1) := by decide +kernel
theorem dL_law_434 : decode cL_law 434 = .ok (.iaload, 1) := by decide +kernel
theorem dL_law_435 : decode cL_law 435 = .ok (.aload_n 0, 1) := by decide +kernel
theorem dL_law_436 : decode cL_law 436 = .ok (.iload_n 3, 1) := by decide +kernel
theorem dL_law_437 : decode cL_law 437 = .ok (.iconst 2, 1) := by decide +kernel
theorem dL_law_438 : decode cL_law 438 = .ok (.iadd, 1) := by decide +kernel
theorem dL_law_439 : decode cL_law 439 = .ok (.iaload, 1) := by decide +kernel
theorem dL_law_440 : decode cL_law 440 = .ok (.invokevirtual 53, 3) := by decide +kernel
theorem dL_law_443 : decode cL_law 443 = .ok (.aload_n 2, 1) := by decide +kernel
theorem dL_law_444 : decode cL_law 444 = .ok (.aload_n 0, 1) := by decide +kernel
theorem dL_law_445 : decode cL_law 445 = .ok (.iload_n 3, 1) := by decide +kernel
theorem dL_law_446 : decode cL_law 446 = .ok (.iconst 1, 1) := by decide +kernel
theorem dL_law_447 : decode cL_law 447 = .ok (.iadd, 1) := by decide +kernel
theorem dL_law_448 : decode cL_law 448 = .ok (.iaload, 1) := by decide +kernel
theorem dL_law_449 : decode cL_law 449 = .ok (.aload_n 0, 1) := by decide +kernel
theorem dL_law_450 : decode cL_law 450 = .ok (.iload_n 3, 1) := by decide +kernel
theorem dL_law_451 : decode cL_law 451 = .ok (.iconst 2, 1) := by decide +kernel
theorem dL_law_452 : decode cL_law 452 = .ok (.iadd, 1) := by decide +kernel
theorem dL_law_453 : decode cL_law 453 = .ok (.iaload, 1) := by decide +kernel
theorem dL_law_454 : decode cL_law 454 = .ok (.invokevirtual 56, 3) := by decide +kernel
theorem dL_law_457 : decode cL_law 457 = .ok (.if_icmp .eq 658, 3) := by decide +kernel
theorem dL_law_460 : decode cL_law 460 = .ok (.iconst 0, 1) := by decide +kernel
theorem dL_law_461 : decode cL_law 461 = .ok (.ireturn, 1) := by decide +kernel
theorem dL_law_462 : decode cL_law 462 = .ok (.aload_n 1, 1) := by decide +kernel
theorem dL_law_463 : decode cL_law 463 = .ok (.aload_n 0, 1) := by decide +kernel
theorem dL_law_464 : decode cL_law 464 = .ok (.iload_n 3, 1) := by decide +kernel
theorem dL_law_465 : decode cL_law 465 = .ok (.iconst 1, 1) := by decide +kernel
theorem dL_law_466 : decode cL_law 466 = .ok (.iadd, 1) := by decide +kernel
theorem dL_law_467 : decode cL_law 467 = .ok (.iaload, 1) := by decide +kernel
theorem dL_law_468 : decode cL_law 468 = .ok (.aload_n 0, 1) := by decide +kernel
theorem dL_law_469 : decode cL_law 469 = .ok (.iload_n 3, 1) := by decide +kernel
theorem dL_law_470 : decode cL_law 470 = .ok (.iconst 2, 1) := by decide +kernel
theorem dL_law_471 : decode cL_law 471 = .ok (.iadd, 1) := by decide +kernel
theorem dL_law_472 : decode cL_law 472 = .ok (.iaload, 1) := by decide +kernel
theorem dL_law_473 : decode cL_law 473 = .ok (.ifCond .eq 7, 3) := by decide +kernel
theorem dL_law_476 : decode cL_law 476 = .ok (.iconst 1, 1) := by decide +kernel
theorem dL_law_477 : decode cL_law 477 = .ok (.goto 4, 3) := by decide +kernel
theorem dL_law_480 : decode cL_law 480 = .ok (.iconst 0, 1) := by decide +kernel
theorem dL_law_481 : decode cL_law 481 = .ok (.invokevirtual 57, 3) := by decide +kernel
theorem dL_law_484 : decode cL_law 484 = .ok (.aload_n 2, 1) := by decide +kernel
theorem dL_law_485 : decode cL_law 485 = .ok (.aload_n 0, 1) := by decide +kernel
theorem dL_law_486 : decode cL_law 486 = .ok (.iload_n 3, 1) := by decide +kernel
theorem dL_law_487 : decode cL_law 487 = .ok (.iconst 1, 1) := by decide +kernel
theorem dL_law_488 : decode cL_law 488 = .ok (.iadd, 1) := by decide +kernel
theorem dL_law_489 : decode cL_law 489 = .ok (.iaload, 1) := by decide +kernel
theorem dL_law_490 : decode cL_law 490 = .ok (.aload_n 0, 1) := by decide +kernel
theorem dL_law_491 : decode cL_law 491 = .ok (.iload_n 3, 1) := by decide +kernel
theorem dL_law_492 : decode cL_law 492 = .ok (.iconst 2, 1) := by decide +kernel
theorem dL_law_493 : decode cL_law 493 = .ok (.iadd, 1) := by decide +kernel
theorem dL_law_494 : decode cL_law 494 = .ok (.iaload, 1) := by decide +kernel
theorem dL_law_495 : decode cL_law 495 = .ok (.ifCond .eq 7, 3) := by decide +kernel
theorem dL_law_498 : decode cL_law 498 = .ok (.iconst 1, 1) := by decide +kernel
theorem dL_law_499 : decode cL_law 499 = .ok (.goto 4, 3) := by decide +kernel
theorem dL_law_502 : decode cL_law 502 = .ok (.iconst 0, 1) := by decide +kernel
theorem dL_law_503 : decode cL_law 503 = .ok (.invokevirtual 60, 3) := by decide +kernel
theorem dL_law_506 : decode cL_law 506 = .ok (.if_icmp .eq 609, 3) := by decide +kernel
theorem dL_law_509 : decode cL_law 509 = .ok (.iconst 0, 1) := by decide +kernel
theorem dL_law_510 : decode cL_law 510 = .ok (.ireturn, 1) := by decide +kernel
theorem dL_law_511 : decode cL_law 511 = .ok (.aload_n 1, 1) := by decide +kernel
theorem dL_law_512 : decode cL_law 512 = .ok (.aload_n 0, 1) := by decide +kernel
theorem dL_law_513 : decode cL_law 513 = .ok (.iload_n 3, 1) := by decide +kernel
theorem dL_law_514 : decode cL_law 514 = .ok (.iconst 1, 1) := by decide +kernel
theorem dL_law_515 : decode cL_law 515 = .ok (.iadd, 1) := by decide +kernel
theorem dL_law_516 : decode cL_law 516 = .ok (.iaload, 1) := by decide +kernel
theorem dL_law_517 : decode cL_law 517 = .ok (.aload_n 0, 1) := by decide +kernel
theorem dL_law_518 : decode cL_law 518 = .ok (.iload_n 3, 1) := by decide +kernel
theorem dL_law_519 : decode cL_law 519 = .ok (.iconst 2, 1) := by decide +kernel
theorem dL_law_520 : decode cL_law 520 = .ok (.iadd, 1) := by decide +kernel
theorem dL_law_521 : decode cL_law 521 = .ok (.iaload, 1) := by decide +kernel
theorem dL_law_522 : decode cL_law 522 = .ok (.ifCond .eq 7, 3) := by decide +kernel
theorem dL_law_525 : decode cL_law 525 = .ok (.iconst 1, 1) := by decide +kernel
theorem dL_law_526 : decode cL_law 526 = .ok (.goto 4, 3) := by decide +kernel
theorem dL_law_529 : decode cL_law 529 = .ok (.iconst 0, 1) := by decide +kernel
theorem dL_law_530 : decode cL_law 530 = .ok (.invokevirtual 61, 3) := by decide +kernel
theorem dL_law_533 : decode cL_law 533 = .ok (.aload_n 2, 1) := by decide +kernel
theorem dL_law_534 : decode cL_law 534 = .ok (.aload_n 0, 1) := by decide +kernel
theorem dL_law_535 : decode cL_law 535 = .ok (.iload_n 3, 1) := by decide +kernel
theorem dL_law_536 : decode cL_law 536 = .ok (.iconst 1, 1) := by decide +kernel
theorem dL_law_537 : decode cL_law 537 = .ok (.iadd, 1) := by decide +kernel
theorem dL_law_538 : decode cL_law 538 = .ok (.iaload, 1) := by decide +kernel
theorem dL_law_539 : decode cL_law 539 = .ok (.aload_n 0, 1) := by decide +kernel
theorem dL_law_540 : decode cL_law 540 = .ok (.iload_n 3, 1) := by decide +kernel
theorem dL_law_541 : decode cL_law 541 = .ok (.iconst 2, 1) := by decide +kernel
theorem dL_law_542 : decode cL_law 542 = .ok (.iadd, 1) := by decide +kernel
theorem dL_law_543 : decode cL_law 543 = .ok (.iaload, 1) := by decide +kernel
theorem dL_law_544 : decode cL_law 544 = .ok (.ifCond .eq 7, 3) := by decide +kernel
theorem dL_law_547 : decode cL_law 547 = .ok (.iconst 1, 1) := by decide +kernel
theorem dL_law_548 : decode cL_law 548 = .ok (.goto 4, 3) := by decide +kernel
theorem dL_law_551 : decode cL_law 551 = .ok (.iconst 0, 1) := by decide +kernel
theorem dL_law_552 : decode cL_law 552 = .ok (.invokevirtual 64, 3) := by decide +kernel
theorem dL_law_555 : decode cL_law 555 = .ok (.if_icmp .eq 560, 3) := by decide +kernel
theorem dL_law_558 : decode cL_law 558 = .ok (.iconst 0, 1) := by decide +kernel
theorem dL_law_559 : decode cL_law 559 = .ok (.ireturn, 1) := by decide +kernel
theorem dL_law_560 : decode cL_law 560 = .ok (.aload_n 1, 1) := by decide +kernel
theorem dL_law_561 : decode cL_law 561 = .ok (.aload_n 0, 1) := by decide +kernel
theorem dL_law_562 : decode cL_law 562 = .ok (.iload_n 3, 1) := by decide +kernel
theorem dL_law_563 : decode cL_law 563 = .ok (.iconst 1, 1) := by decide +kernel
theorem dL_law_564 : decode cL_law 564 = .ok (.iadd, 1) := by decide +kernel
theorem dL_law_565 : decode cL_law 565 = .ok (.iaload, 1) := by decide +kernel
theorem dL_law_566 : decode cL_law 566 = .ok (.aload_n 0, 1) := by decide +kernel
theorem dL_law_567 : decode cL_law 567 = .ok (.iload_n 3, 1) := by decide +kernel
theorem dL_law_568 : decode cL_law 568 = .ok (.iconst 2, 1) := by decide +kernel
theorem dL_law_569 : decode cL_law 569 = .ok (.iadd, 1) := by decide +kernel
theorem dL_law_570 : decode cL_law 570 = .ok (.iaload, 1) := by decide +kernel
theorem dL_law_571 : decode cL_law 571 = .ok (.invokevirtual 65, 3) := by decide +kernel
theorem dL_law_574 : decode cL_law 574 = .ok (.aload_n 2, 1) := by decide +kernel
theorem dL_law_575 : decode cL_law 575 = .ok (.aload_n 0, 1) := by decide +kernel
theorem dL_law_576 : decode cL_law 576 = .ok (.iload_n 3, 1) := by decide +kernel
theorem dL_law_577 : decode cL_law 577 = .ok (.iconst 1, 1) := by decide +kernel
theorem dL_law_578 : decode cL_law 578 = .ok (.iadd, 1) := by decide +kernel
theorem dL_law_579 : decode cL_law 579 = .ok (.iaload, 1) := by decide +kernel
theorem dL_law_580 : decode cL_law 580 = .ok (.aload_n 0, 1) := by decide +kernel
theorem dL_law_581 : decode cL_law 581 = .ok (.iload_n 3, 1) := by decide +kernel
theorem dL_law_582 : decode cL_law 582 = .ok (.iconst 2, 1) := by decide +kernel
theorem dL_law_583 : decode cL_law 583 = .ok (.iadd, 1) := by decide +kernel
theorem dL_law_584 : decode cL_law 584 = .ok (.iaload, 1) := by decide +kernel
theorem dL_law_585 : decode cL_law 585 = .ok (.invokevirtual 68, 3) := by decide +kernel
theorem dL_law_588 : decode cL_law 588 = .ok (.if_icmp .eq 527, 3) := by decide +kernel
theorem dL_law_591 : decode cL_law 591 = .ok (.iconst 0, 1) := by decide +kernel
theorem dL_law_592 : decode cL_law 592 = .ok (.ireturn, 1) := by decide +kernel
theorem dL_law_593 : decode cL_law 593 = .ok (.aload_n 1, 1) := by decide +kernel
theorem dL_law_594 : decode cL_law 594 = .ok (.invokevirtual 69, 3) := by decide +kernel
theorem dL_law_597 : decode cL_law 597 = .ok (.aload_n 2, 1) := by decide +kernel
theorem dL_law_598 : decode cL_law 598 = .ok (.invokevirtual 72, 3) := by decide +kernel
theorem dL_law_601 : decode cL_law 601 = .ok (.if_icmp .eq 514, 3) := by decide +kernel
theorem dL_law_604 : decode cL_law 604 = .ok (.iconst 0, 1) := by decide +kernel
theorem dL_law_605 : decode cL_law 605 = .ok (.ireturn, 1) := by decide +kernel
theorem dL_law_606 : decode cL_law 606 = .ok (.aload_n 1, 1) := by decide +kernel
theorem dL_law_607 : decode cL_law 607 = .ok (.aload_n 0, 1) := by decide +kernel
theorem dL_law_608 : decode cL_law 608 = .ok (.iload_n 3, 1) := by decide +kernel
theorem dL_law_609 : decode cL_law 609 = .ok (.iconst 1, 1) := by decide +kernel
theorem dL_law_610 : decode cL_law 610 = .ok (.iadd, 1) := by decide +kernel
theorem dL_law_611 : decode cL_law 611 = .ok (.iaload, 1) := by decide +kernel
theorem dL_law_612 : decode cL_law 612 = .ok (.invokevirtual 73, 3) := by decide +kernel
theorem dL_law_615 : decode cL_law 615 = .ok (.aload_n 2, 1) := by decide +kernel
theorem dL_law_616 : decode cL_law 616 = .ok (.aload_n 0, 1) := by decide +kernel
theorem dL_law_617 : decode cL_law 617 = .ok (.iload_n 3, 1) := by decide +kernel
theorem dL_law_618 : decode cL_law 618 = .ok (.iconst 1, 1) := by decide +kernel
theorem dL_law_619 : decode cL_law 619 = .ok (.iadd, 1) := by decide +kernel
theorem dL_law_620 : decode cL_law 620 = .ok (.iaload, 1) := by decide +kernel
theorem dL_law_621 : decode cL_law 621 = .ok (.invokevirtual 76, 3) := by decide +kernel
theorem dL_law_624 : decode cL_law 624 = .ok (.if_icmp .eq 491, 3) := by decide +kernel
theorem dL_law_627 : decode cL_law 627 = .ok (.iconst 0, 1) := by decide +kernel
theorem dL_law_628 : decode cL_law 628 = .ok (.ireturn, 1) := by decide +kernel
theorem dL_law_629 : decode cL_law 629 = .ok (.aload_n 1, 1) := by decide +kernel
theorem dL_law_630 : decode cL_law 630 = .ok (.aload_n 0, 1) := by decide +kernel
theorem dL_law_631 : decode cL_law 631 = .ok (.iload_n 3, 1) := by decide +kernel
theorem dL_law_632 : decode cL_law 632 = .ok (.iconst 1, 1) := by decide +kernel
theorem dL_law_633 : decode cL_law 633 = .ok (.iadd, 1) := by decide +kernel
theorem dL_law_634 : decode cL_law 634 = .ok (.iaload, 1) := by decide +kernel
theorem dL_law_635 : decode cL_law 635 = .ok (.invokevirtual 77, 3) := by decide +kernel
theorem dL_law_638 : decode cL_law 638 = .ok (.aload_n 2, 1) := by decide +kernel
theorem dL_law_639 : decode cL_law 639 = .ok (.aload_n 0, 1) := by decide +kernel
theorem dL_law_640 : decode cL_law 640 = .ok (.iload_n 3, 1) := by decide +kernel
theorem dL_law_641 : decode cL_law 641 = .ok (.iconst 1, 1) := by decide +kernel
theorem dL_law_642 : decode cL_law 642 = .ok (.iadd, 1) := by decide +kernel
theorem dL_law_643 : decode cL_law 643 = .ok (.iaload, 1) := by decide +kernel
theorem dL_law_644 : decode cL_law 644 = .ok (.invokevirtual 80, 3) := by decide +kernel
theorem dL_law_647 : decode cL_law 647 = .ok (.if_icmp .eq 468, 3) := by decide +kernel
theorem dL_law_650 : decode cL_law 650 = .ok (.iconst 0, 1) := by decide +kernel
theorem dL_law_651 : decode cL_law 651 = .ok (.ireturn, 1) := by decide +kernel
theorem dL_law_652 : decode cL_law 652 = .ok (.aload_n 1, 1) := by decide +kernel
theorem dL_law_653 : decode cL_law 653 = .ok (.invokevirtual 81, 3) := by decide +kernel
theorem dL_law_656 : decode cL_law 656 = .ok (.aload_n 2, 1) := by decide +kernel
theorem dL_law_657 : decode cL_law 657 = .ok (.invokevirtual 84, 3) := by decide +kernel
theorem dL_law_660 : decode cL_law 660 = .ok (.if_icmp .eq 455, 3) := by decide +kernel
theorem dL_law_663 : decode cL_law 663 = .ok (.iconst 0, 1) := by decide +kernel
theorem dL_law_664 : decode cL_law 664 = .ok (.ireturn, 1) := by decide +kernel
theorem dL_law_665 : decode cL_law 665 = .ok (.aload_n 1, 1) := by decide +kernel
theorem dL_law_666 : decode cL_law 666 = .ok (.aload_n 0, 1) := by decide +kernel
theorem dL_law_667 : decode cL_law 667 = .ok (.iload_n 3, 1) := by decide +kernel
theorem dL_law_668 : decode cL_law 668 = .ok (.iconst 1, 1) := by decide +kernel
theorem dL_law_669 : decode cL_law 669 = .ok (.iadd, 1) := by decide +kernel
theorem dL_law_670 : decode cL_law 670 = .ok (.iaload, 1) := by decide +kernel
theorem dL_law_671 : decode cL_law 671 = .ok (.invokevirtual 85, 3) := by decide +kernel
theorem dL_law_674 : decode cL_law 674 = .ok (.aload_n 2, 1) := by decide +kernel
theorem dL_law_675 : decode cL_law 675 = .ok (.aload_n 0, 1) := by decide +kernel
theorem dL_law_676 : decode cL_law 676 = .ok (.iload_n 3, 1) := by decide +kernel
theorem dL_law_677 : decode cL_law 677 = .ok (.iconst 1, 1) := by decide +kernel
theorem dL_law_678 : decode cL_law 678 = .ok (.iadd, 1) := by decide +kernel
theorem dL_law_679 : decode cL_law 679 = .ok (.iaload, 1) := by decide +kernel
theorem dL_law_680 : decode cL_law 680 = .ok (.invokevirtual 88, 3) := by decide +kernel
theorem dL_law_683 : decode cL_law 683 = .ok (.if_icmp .eq 432, 3) := by decide +kernel
theorem dL_law_686 : decode cL_law 686 = .ok (.iconst 0, 1) := by decide +kernel
theorem dL_law_687 : decode cL_law 687 = .ok (.ireturn, 1) := by decide +kernel
theorem dL_law_688 : decode cL_law 688 = .ok (.aload_n 1, 1) := by decide +kernel
theorem dL_law_689 : decode cL_law 689 = .ok (.aload_n 0, 1) := by decide +kernel
theorem dL_law_690 : decode cL_law 690 = .ok (.iload_n 3, 1) := by decide +kernel
theorem dL_law_691 : decode cL_law 691 = .ok (.iconst 1, 1) := by decide +kernel
theorem dL_law_692 : decode cL_law 692 = .ok (.iadd, 1) := by decide +kernel
theorem dL_law_693 : decode cL_law 693 = .ok (.iaload, 1) := by decide +kernel
theorem dL_law_694 : decode cL_law 694 = .ok (.invokevirtual 89, 3) := by decide +kernel
theorem dL_law_697 : decode cL_law 697 = .ok (.aload_n 2, 1) := by decide +kernel
theorem dL_law_698 : decode cL_law 698 = .ok (.aload_n 0, 1) := by decide +kernel
theorem dL_law_699 : decode cL_law 699 = .ok (.iload_n 3, 1) := by decide +kernel
theorem dL_law_700 : decode cL_law 700 = .ok (.iconst 1, 1) := by decide +kernel
theorem dL_law_701 : decode cL_law 701 = .ok (.iadd, 1) := by decide +kernel
theorem dL_law_702 : decode cL_law 702 = .ok (.iaload, 1) := by decide +kernel
theorem dL_law_703 : decode cL_law 703 = .ok (.invokevirtual 92, 3) := by decide +kernel
theorem dL_law_706 : decode cL_law 706 = .ok (.if_icmp .eq 409, 3) := by decide +kernel
theorem dL_law_709 : decode cL_law 709 = .ok (.iconst 0, 1) := by decide +kernel
theorem dL_law_710 : decode cL_law 710 = .ok (.ireturn, 1) := by decide +kernel
theorem dL_law_711 : decode cL_law 711 = .ok (.aload_n 1, 1) := by decide +kernel
theorem dL_law_712 : decode cL_law 712 = .ok (.aload_n 0, 1) := by decide +kernel
theorem dL_law_713 : decode cL_law 713 = .ok (.iload_n 3, 1) := by decide +kernel
theorem dL_law_714 : decode cL_law 714 = .ok (.iconst 1, 1) := by decide +kernel
theorem dL_law_715 : decode cL_law 715 = .ok (.iadd, 1) := by decide +kernel
theorem dL_law_716 : decode cL_law 716 = .ok (.iaload, 1) := by decide +kernel
theorem dL_law_717 : decode cL_law 717 = .ok (.aload_n 0, 1) := by decide +kernel
theorem dL_law_718 : decode cL_law 718 = .ok (.iload_n 3, 1) := by decide +kernel
theorem dL_law_719 : decode cL_law 719 = .ok (.iconst 2, 1) := by decide +kernel
theorem dL_law_720 : decode cL_law 720 = .ok (.iadd, 1) := by decide +kernel
theorem dL_law_721 : decode cL_law 721 = .ok (.iaload, 1) := by decide +kernel
theorem dL_law_722 : decode cL_law 722 = .ok (.invokevirtual 93, 3) := by decide +kernel
theorem dL_law_725 : decode cL_law 725 = .ok (.aload_n 2, 1) := by decide +kernel
theorem dL_law_726 : decode cL_law 726 = .ok (.aload_n 0, 1) := by decide +kernel
theorem dL_law_727 : decode cL_law 727 = .ok (.iload_n 3, 1) := by decide +kernel
theorem dL_law_728 : decode cL_law 728 = .ok (.iconst 1, 1) := by decide +kernel
theorem dL_law_729 : decode cL_law 729 = .ok (.iadd, 1) := by decide +kernel
theorem dL_law_730 : decode cL_law 730 = .ok (.iaload, 1) := by decide +kernel
theorem dL_law_731 : decode cL_law 731 = .ok (.aload_n 0, 1) := by decide +kernel
theorem dL_law_732 : decode cL_law 732 = .ok (.iload_n 3, 1) := by decide +kernel
theorem dL_law_733 : decode cL_law 733 = .ok (.iconst 2, 1) := by decide +kernel
theorem dL_law_734 : decode cL_law 734 = .ok (.iadd, 1) := by decide +kernel
theorem dL_law_735 : decode cL_law 735 = .ok (.iaload, 1) := by decide +kernel
theorem dL_law_736 : decode cL_law 736 = .ok (.invokevirtual 96, 3) := by decide +kernel
theorem dL_law_739 : decode cL_law 739 = .ok (.if_icmp .eq 376, 3) := by decide +kernel
theorem dL_law_742 : decode cL_law 742 = .ok (.iconst 0, 1) := by decide +kernel
theorem dL_law_743 : decode cL_law 743 = .ok (.ireturn, 1) := by decide +kernel
theorem dL_law_744 : decode cL_law 744 = .ok (.aload_n 1, 1) := by decide +kernel
theorem dL_law_745 : decode cL_law 745 = .ok (.invokevirtual 97, 3) := by decide +kernel
theorem dL_law_748 : decode cL_law 748 = .ok (.aload_n 2, 1) := by decide +kernel
theorem dL_law_749 : decode cL_law 749 = .ok (.invokevirtual 100, 3) := by decide +kernel
theorem dL_law_752 : decode cL_law 752 = .ok (.if_icmp .eq 363, 3) := by decide +kernel
theorem dL_law_755 : decode cL_law 755 = .ok (.iconst 0, 1) := by decide +kernel
theorem dL_law_756 : decode cL_law 756 = .ok (.ireturn, 1) := by decide +kernel
theorem dL_law_757 : decode cL_law 757 = .ok (.aload_n 1, 1) := by decide +kernel
theorem dL_law_758 : decode cL_law 758 = .ok (.aload_n 0, 1) := by decide +kernel
theorem dL_law_759 : decode cL_law 759 = .ok (.iload_n 3, 1) := by decide +kernel
theorem dL_law_760 : decode cL_law 760 = .ok (.iconst 1, 1) := by decide +kernel
theorem dL_law_761 : decode cL_law 761 = .ok (.iadd, 1) := by decide +kernel
theorem dL_law_762 : decode cL_law 762 = .ok (.iaload, 1) := by decide +kernel
theorem dL_law_763 : decode cL_law 763 = .ok (.aload_n 0, 1) := by decide +kernel
theorem dL_law_764 : decode cL_law 764 = .ok (.iload_n 3, 1) := by decide +kernel
theorem dL_law_765 : decode cL_law 765 = .ok (.iconst 2, 1) := by decide +kernel
theorem dL_law_766 : decode cL_law 766 = .ok (.iadd, 1) := by decide +kernel
theorem dL_law_767 : decode cL_law 767 = .ok (.iaload, 1) := by decide +kernel
theorem dL_law_768 : decode cL_law 768 = .ok (.invokevirtual 101, 3) := by decide +kernel
theorem dL_law_771 : decode cL_law 771 = .ok (.aload_n 2, 1) := by decide +kernel
theorem dL_law_772 : decode cL_law 772 = .ok (.aload_n 0, 1) := by decide +kernel
theorem dL_law_773 : decode cL_law 773 = .ok (.iload_n 3, 1) := by decide +kernel
theorem dL_law_774 : decode cL_law 774 = .ok (.iconst 1, 1) := by decide +kernel
theorem dL_law_775 : decode cL_law 775 = .ok (.iadd, 1) := by decide +kernel
theorem dL_law_776 : decode cL_law 776 = .ok (.iaload, 1) := by decide +kernel
theorem dL_law_777 : decode cL_law 777 = .ok (.aload_n 0, 1) := by decide +kernel
theorem dL_law_778 : decode cL_law 778 = .ok (.iload_n 3, 1) := by decide +kernel
theorem dL_law_779 : decode cL_law 779 = .ok (.iconst 2, 1) := by decide +kernel
theorem dL_law_780 : decode cL_law 780 = .ok (.iadd, 1) := by decide +kernel
theorem dL_law_781 : decode cL_law 781 = .ok (.iaload, 1) := by decide +kernel
theorem dL_law_782 : decode cL_law 782 = .ok (.invokevirtual 104, 3) := by decide +kernel
theorem dL_law_785 : decode cL_law 785 = .ok (.if_icmp .eq 330, 3) := by decide +kernel
theorem dL_law_788 : decode cL_law 788 = .ok (.iconst 0, 1) := by decide +kernel
theorem dL_law_789 : decode cL_law 789 = .ok (.ireturn, 1) := by decide +kernel
theorem dL_law_790 : decode cL_law 790 = .ok (.aload_n 1, 1) := by decide +kernel
theorem dL_law_791 : decode cL_law 791 = .ok (.aload_n 0, 1) := by decide +kernel
theorem dL_law_792 : decode cL_law 792 = .ok (.iload_n 3, 1) := by decide +kernel
theorem dL_law_793 : decode cL_law 793 = .ok (.iconst 1, 1) := by decide +kernel
theorem dL_law_794 : decode cL_law 794 = .ok (.iadd, 1) := by decide +kernel
theorem dL_law_795 : decode cL_law 795 = .ok (.iaload, 1) := by decide +kernel
theorem dL_law_796 : decode cL_law 796 = .ok (.invokevirtual 105, 3) := by decide +kernel
theorem dL_law_799 : decode cL_law 799 = .ok (.aload_n 2, 1) := by decide +kernel
theorem dL_law_800 : decode cL_law 800 = .ok (.aload_n 0, 1) := by decide +kernel
theorem dL_law_801 : decode cL_law 801 = .ok (.iload_n 3, 1) := by decide +kernel
theorem dL_law_802 : decode cL_law 802 = .ok (.iconst 1, 1) := by decide +kernel
theorem dL_law_803 : decode cL_law 803 = .ok (.iadd, 1) := by decide +kernel
theorem dL_law_804 : decode cL_law 804 = .ok (.iaload, 1) := by decide +kernel
theorem dL_law_805 : decode cL_law 805 = .ok (.invokevirtual 108, 3) := by decide +kernel
theorem dL_law_808 : decode cL_law 808 = .ok (.if_icmp .eq 307, 3) := by decide +kernel
theorem dL_law_811 : decode cL_law 811 = .ok (.iconst 0, 1) := by decide +kernel
theorem dL_law_812 : decode cL_law 812 = .ok (.ireturn, 1) := by decide +kernel
theorem dL_law_813 : decode cL_law 813 = .ok (.aload_n 1, 1) := by decide +kernel
theorem dL_law_814 : decode cL_law 814 = .ok (.aload_n 0, 1) := by decide +kernel
theorem dL_law_815 : decode cL_law 815 = .ok (.iload_n 3, 1) := by decide +kernel
theorem dL_law_816 : decode cL_law 816 = .ok (.iconst 1, 1) := by decide +kernel
theorem dL_law_817 : decode cL_law 817 = .ok (.iadd, 1) := by decide +kernel
theorem dL_law_818 : decode cL_law 818 = .ok (.iaload, 1) := by decide +kernel
theorem dL_law_819 : decode cL_law 819 = .ok (.invokevirtual 109, 3) := by decide +kernel
theorem dL_law_822 : decode cL_law 822 = .ok (.aload_n 2, 1) := by decide +kernel
theorem dL_law_823 : decode cL_law 823 = .ok (.aload_n 0, 1) := by decide +kernel
theorem dL_law_824 : decode cL_law 824 = .ok (.iload_n 3, 1) := by decide +kernel
theorem dL_law_825 : decode cL_law 825 = .ok (.iconst 1, 1) := by decide +kernel
theorem dL_law_826 : decode cL_law 826 = .ok (.iadd, 1) := by decide +kernel
theorem dL_law_827 : decode cL_law 827 = .ok (.iaload, 1) := by decide +kernel
theorem dL_law_828 : decode cL_law 828 = .ok (.invokevirtual 112, 3) := by decide +kernel
theorem dL_law_831 : decode cL_law 831 = .ok (.if_icmp .eq 284, 3) := by decide +kernel
theorem dL_law_834 : decode cL_law 834 = .ok (.iconst 0, 1) := by decide +kernel
theorem dL_law_835 : decode cL_law 835 = .ok (.ireturn, 1) := by decide +kernel
theorem dL_law_836 : decode cL_law 836 = .ok (.aload_n 1, 1) := by decide +kernel
theorem dL_law_837 : decode cL_law 837 = .ok (.invokevirtual 113, 3) := by decide +kernel
theorem dL_law_840 : decode cL_law 840 = .ok (.aload_n 2, 1) := by decide +kernel
theorem dL_law_841 : decode cL_law 841 = .ok (.invokevirtual 116, 3) := by decide +kernel
theorem dL_law_844 : decode cL_law 844 = .ok (.if_icmp .eq 271, 3) := by decide +kernel
theorem dL_law_847 : decode cL_law 847 = .ok (.iconst 0, 1) := by decide +kernel
theorem dL_law_848 : decode cL_law 848 = .ok (.ireturn, 1) := by decide +kernel
theorem dL_law_849 : decode cL_law 849 = .ok (.aload_n 1, 1) := by decide +kernel
theorem dL_law_850 : decode cL_law 850 = .ok (.aload_n 0, 1) := by decide +kernel
theorem dL_law_851 : decode cL_law 851 = .ok (.iload_n 3, 1) := by decide +kernel
theorem dL_law_852 : decode cL_law 852 = .ok (.iconst 1, 1) := by decide +kernel
theorem dL_law_853 : decode cL_law 853 = .ok (.iadd, 1) := by decide +kernel
theorem dL_law_854 : decode cL_law 854 = .ok (.iaload, 1) := by decide +kernel
theorem dL_law_855 : decode cL_law 855 = .ok (.invokevirtual 117, 3) := by decide +kernel
theorem dL_law_858 : decode cL_law 858 = .ok (.aload_n 2, 1) := by decide +kernel
theorem dL_law_859 : decode cL_law 859 = .ok (.aload_n 0, 1) := by decide +kernel
theorem dL_law_860 : decode cL_law 860 = .ok (.iload_n 3, 1) := by decide +kernel
theorem dL_law_861 : decode cL_law 861 = .ok (.iconst 1, 1) := by decide +kernel
theorem dL_law_862 : decode cL_law 862 = .ok (.iadd, 1) := by decide +kernel
theorem dL_law_863 : decode cL_law 863 = .ok (.iaload, 1) := by decide +kernel
theorem dL_law_864 : decode cL_law 864 = .ok (.invokevirtual 120, 3) := by decide +kernel
theorem dL_law_867 : decode cL_law 867 = .ok (.if_icmp .eq 248, 3) := by decide +kernel
theorem dL_law_870 : decode cL_law 870 = .ok (.iconst 0, 1) := by decide +kernel
theorem dL_law_871 : decode cL_law 871 = .ok (.ireturn, 1) := by decide +kernel
theorem dL_law_872 : decode cL_law 872 = .ok (.aload_n 1, 1) := by decide +kernel
theorem dL_law_873 : decode cL_law 873 = .ok (.aload_n 0, 1) := by decide +kernel
theorem dL_law_874 : decode cL_law 874 = .ok (.iload_n 3, 1) := by decide +kernel
theorem dL_law_875 : decode cL_law 875 = .ok (.iconst 1, 1) := by decide +kernel
theorem dL_law_876 : decode cL_law 876 = .ok (.iadd, 1) := by decide +kernel
theorem dL_law_877 : decode cL_law 877 = .ok (.iaload, 1) := by decide +kernel
theorem dL_law_878 : decode cL_law 878 = .ok (.aload_n 0, 1) := by decide +kernel
theorem dL_law_879 : decode cL_law 879 = .ok (.iload_n 3, 1) := by decide +kernel
theorem dL_law_880 : decode cL_law 880 = .ok (.iconst 2, 1) := by decide +kernel
theorem dL_law_881 : decode cL_law 881 = .ok (.iadd, 1) := by decide +kernel
theorem dL_law_882 : decode cL_law 882 = .ok (.iaload, 1) := by decide +kernel
theorem dL_law_883 : decode cL_law 883 = .ok (.invokevirtual 121, 3) := by decide +kernel
theorem dL_law_886 : decode cL_law 886 = .ok (.aload_n 2, 1) := by decide +kernel
theorem dL_law_887 : decode cL_law 887 = .ok (.aload_n 0, 1) := by decide +kernel
theorem dL_law_888 : decode cL_law 888 = .ok (.iload_n 3, 1) := by decide +kernel
theorem dL_law_889 : decode cL_law 889 = .ok (.iconst 1, 1) := by decide +kernel
theorem dL_law_890 : decode cL_law 890 = .ok (.iadd, 1) := by decide +kernel
theorem dL_law_891 : decode cL_law 891 = .ok (.iaload, 1) := by decide +kernel
theorem dL_law_892 : decode cL_law 892 = .ok (.aload_n 0, 1) := by decide +kernel
theorem dL_law_893 : decode cL_law 893 = .ok (.iload_n 3, 1) := by decide +kernel
theorem dL_law_894 : decode cL_law 894 = .ok (.iconst 2, 1) := by decide +kernel
theorem dL_law_895 : decode cL_law 895 = .ok (.iadd, 1) := by decide +kernel
theorem dL_law_896 : decode cL_law 896 = .ok (.iaload, 1) := by decide +kernel
theorem dL_law_897 : decode cL_law 897 = .ok (.invokevirtual 124, 3) := by decide +kernel
theorem dL_law_900 : decode cL_law 900 = .ok (.if_icmp .eq 215, 3) := by decide +kernel
theorem dL_law_903 : decode cL_law 903 = .ok (.iconst 0, 1) := by decide +kernel
theorem dL_law_904 : decode cL_law 904 = .ok (.ireturn, 1) := by decide +kernel
theorem dL_law_905 : decode cL_law 905 = .ok (.aload_n 1, 1) := by decide +kernel
theorem dL_law_906 : decode cL_law 906 = .ok (.aload_n 0, 1) := by decide +kernel
theorem dL_law_907 : decode cL_law 907 = .ok (.iload_n 3, 1) := by decide +kernel
theorem dL_law_908 : decode cL_law 908 = .ok (.iconst 1, 1) := by decide +kernel
theorem dL_law_909 : decode cL_law 909 = .ok (.iadd, 1) := by decide +kernel
theorem dL_law_910 : decode cL_law 910 = .ok (.iaload, 1) := by decide +kernel
theorem dL_law_911 : decode cL_law 911 = .ok (.invokevirtual 125, 3) := by decide +kernel
theorem dL_law_914 : decode cL_law 914 = .ok (.aload_n 2, 1) := by decide +kernel
theorem dL_law_915 : decode cL_law 915 = .ok (.aload_n 0, 1) := by decide +kernel
theorem dL_law_916 : decode cL_law 916 = .ok (.iload_n 3, 1) := by decide +kernel
theorem dL_law_917 : decode cL_law 917 = .ok (.iconst 1, 1) := by decide +kernel
theorem dL_law_918 : decode cL_law 918 = .ok (.iadd, 1) := by decide +kernel
theorem dL_law_919 : decode cL_law 919 = .ok (.iaload, 1) := by decide +kernel
theorem dL_law_920 : decode cL_law 920 = .ok (.invokevirtual 128, 3) := by decide +kernel
theorem dL_law_923 : decode cL_law 923 = .ok (.if_icmp .eq 192, 3) := by decide +kernel
theorem dL_law_926 : decode cL_law 926 = .ok (.iconst 0, 1) := by decide +kernel
theorem dL_law_927 : decode cL_law 927 = .ok (.ireturn, 1) := by decide +kernel
theorem dL_law_928 : decode cL_law 928 = .ok (.aload_n 1, 1) := by decide +kernel
theorem dL_law_929 : decode cL_law 929 = .ok (.invokevirtual 129, 3) := by decide +kernel
theorem dL_law_932 : decode cL_law 932 = .ok (.aload_n 2, 1) := by decide +kernel
theorem dL_law_933 : decode cL_law 933 = .ok (.invokevirtual 132, 3) := by decide +kernel
theorem dL_law_936 : decode cL_law 936 = .ok (.if_icmp .eq 179, 3) := by decide +kernel
theorem dL_law_939 : decode cL_law 939 = .ok (.iconst 0, 1) := by decide +kernel
theorem dL_law_940 : decode cL_law 940 = .ok (.ireturn, 1) := by decide +kernel
theorem dL_law_941 : decode cL_law 941 = .ok (.aload_n 1, 1) := by decide +kernel
theorem dL_law_942 : decode cL_law 942 = .ok (.aload_n 0, 1) := by decide +kernel
theorem dL_law_943 : decode cL_law 943 = .ok (.iload_n 3, 1) := by decide +kernel
theorem dL_law_944 : decode cL_law 944 = .ok (.iconst 1, 1) := by decide +kernel
theorem dL_law_945 : decode cL_law 945 = .ok (.iadd, 1) := by decide +kernel
theorem dL_law_946 : decode cL_law 946 = .ok (.iaload, 1) := by decide +kernel
theorem dL_law_947 : decode cL_law 947 = .ok (.invokevirtual 133, 3) := by decide +kernel
theorem dL_law_950 : decode cL_law 950 = .ok (.aload_n 2, 1) := by decide +kernel
theorem dL_law_951 : decode cL_law 951 = .ok (.aload_n 0, 1) := by decide +kernel
theorem dL_law_952 : decode cL_law 952 = .ok (.iload_n 3, 1) := by decide +kernel
theorem dL_law_953 : decode cL_law 953 = .ok (.iconst 1, 1) := by decide +kernel
theorem dL_law_954 : decode cL_law 954 = .ok (.iadd, 1) := by decide +kernel
theorem dL_law_955 : decode cL_law 955 = .ok (.iaload, 1) := by decide +kernel
theorem dL_law_956 : decode cL_law 956 = .ok (.invokevirtual 136, 3) := by decide +kernel
theorem dL_law_959 : decode cL_law 959 = .ok (.if_icmp .eq 156, 3) := by decide +kernel
theorem dL_law_962 : decode cL_law 962 = .ok (.iconst 0, 1) := by decide +kernel
theorem dL_law_963 : decode cL_law 963 = .ok (.ireturn, 1) := by decide +kernel
theorem dL_law_964 : decode cL_law 964 = .ok (.aload_n 1, 1) := by decide +kernel
theorem dL_law_965 : decode cL_law 965 = .ok (.aload_n 0, 1) := by decide +kernel
theorem dL_law_966 : decode cL_law 966 = .ok (.iload_n 3, 1) := by decide +kernel
theorem dL_law_967 : decode cL_law 967 = .ok (.iconst 1, 1) := by decide +kernel
theorem dL_law_968 : decode cL_law 968 = .ok (.iadd, 1) := by decide +kernel
theorem dL_law_969 : decode cL_law 969 = .ok (.iaload, 1) := by decide +kernel
theorem dL_law_970 : decode cL_law 970 = .ok (.invokevirtual 137, 3) := by decide +kernel
theorem dL_law_973 : decode cL_law 973 = .ok (.aload_n 2, 1) := by decide +kernel
theorem dL_law_974 : decode cL_law 974 = .ok (.aload_n 0, 1) := by decide +kernel
theorem dL_law_975 : decode cL_law 975 = .ok (.iload_n 3, 1) := by decide +kernel
theorem dL_law_976 : decode cL_law 976 = .ok (.iconst 1, 1) := by decide +kernel
theorem dL_law_977 : decode cL_law 977 = .ok (.iadd, 1) := by decide +kernel
theorem dL_law_978 : decode cL_law 978 = .ok (.iaload, 1) := by decide +kernel
theorem dL_law_979 : decode cL_law 979 = .ok (.invokevirtual 140, 3) := by decide +kernel
theorem dL_law_982 : decode cL_law 982 = .ok (.if_icmp .eq 133, 3) := by decide +kernel
theorem dL_law_985 : decode cL_law 985 = .ok (.iconst 0, 1) := by decide +kernel
theorem dL_law_986 : decode cL_law 986 = .ok (.ireturn, 1) := by decide +kernel
theorem dL_law_987 : decode cL_law 987 = .ok (.aload_n 1, 1) := by decide +kernel
theorem dL_law_988 : decode cL_law 988 = .ok (.aload_n 0, 1) := by decide +kernel
theorem dL_law_989 : decode cL_law 989 = .ok (.iload_n 3, 1) := by decide +kernel
theorem dL_law_990 : decode cL_law 990 = .ok (.iconst 1, 1) := by decide +kernel
theorem dL_law_991 : decode cL_law 991 = .ok (.iadd, 1) := by decide +kernel
theorem dL_law_992 : decode cL_law 992 = .ok (.iaload, 1) := by decide +kernel
theorem dL_law_993 : decode cL_law 993 = .ok (.aload_n 0, 1) := by decide +kernel
theorem dL_law_994 : decode cL_law 994 = .ok (.iload_n 3, 1) := by decide +kernel
theorem dL_law_995 : decode cL_law 995 = .ok (.iconst 2, 1) := by decide +kernel
theorem dL_law_996 : decode cL_law 996 = .ok (.iadd, 1) := by decide +kernel
theorem dL_law_997 : decode cL_law 997 = .ok (.iaload, 1) := by decide +kernel
theorem dL_law_998 : decode cL_law 998 = .ok (.invokevirtual 141, 3) := by decide +kernel
theorem dL_law_1001 : decode cL_law 1001 = .ok (.aload_n 2, 1) := by decide +kernel
theorem dL_law_1002 : decode cL_law 1002 = .ok (.aload_n 0, 1) := by decide +kernel
theorem dL_law_1003 : decode cL_law 1003 = .ok (.iload_n 3, 1) := by decide +kernel
theorem dL_law_1004 : decode cL_law 1004 = .ok (.iconst 1, 1) := by decide +kernel
theorem dL_law_1005 : decode cL_law 1005 = .ok (.iadd, 1) := by decide +kernel
theorem dL_law_1006 : decode cL_law 1006 = .ok (.iaload, 1) := by decide +kernel
theorem dL_law_1007 : decode cL_law 1007 = .ok (.aload_n 0, 1) := by decide +kernel
theorem dL_law_1008 : decode cL_law 1008 = .ok (.iload_n 3, 1) := by decide +kernel
theorem dL_law_1009 : decode cL_law 1009 = .ok (.iconst 2, 1) := by decide +kernel
theorem dL_law_1010 : decode cL_law 1010 = .ok (.iadd, 1) := by decide +kernel
theorem dL_law_1011 : decode cL_law 1011 = .ok (.iaload, 1) := by decide +kernel
theorem dL_law_1012 : decode cL_law 1012 = .ok (.invokevirtual 144, 3) := by decide +kernel
theorem dL_law_1015 : decode cL_law 1015 = .ok (.if_icmp .eq 100, 3) := by decide +kernel
theorem dL_law_1018 : decode cL_law 1018 = .ok (.iconst 0, 1) := by decide +kernel
theorem dL_law_1019 : decode cL_law 1019 = .ok (.ireturn, 1) := by decide +kernel
theorem dL_law_1020 : decode cL_law 1020 = .ok (.aload_n 1, 1) := by decide +kernel
theorem dL_law_1021 : decode cL_law 1021 = .ok (.invokevirtual 145, 3) := by decide +kernel
theorem dL_law_1024 : decode cL_law 1024 = .ok (.aload_n 2, 1) := by decide +kernel
theorem dL_law_1025 : decode cL_law 1025 = .ok (.invokevirtual 148, 3) := by decide +kernel
theorem dL_law_1028 : decode cL_law 1028 = .ok (.if_icmp .eq 87, 3) := by decide +kernel
theorem dL_law_1031 : decode cL_law 1031 = .ok (.iconst 0, 1) := by decide +kernel
theorem dL_law_1032 : decode cL_law 1032 = .ok (.ireturn, 1) := by decide +kernel
theorem dL_law_1033 : decode cL_law 1033 = .ok (.aload_n 1, 1) := by decide +kernel
theorem dL_law_1034 : decode cL_law 1034 = .ok (.invokevirtual 149, 3) := by decide +kernel
theorem dL_law_1037 : decode cL_law 1037 = .ok (.aload_n 2, 1) := by decide +kernel
theorem dL_law_1038 : decode cL_law 1038 = .ok (.invokevirtual 152, 3) := by decide +kernel
theorem dL_law_1041 : decode cL_law 1041 = .ok (.if_icmp .eq 74, 3) := by decide +kernel
theorem dL_law_1044 : decode cL_law 1044 = .ok (.iconst 0, 1) := by decide +kernel
theorem dL_law_1045 : decode cL_law 1045 = .ok (.ireturn, 1) := by decide +kernel
theorem dL_law_1046 : decode cL_law 1046 = .ok (.aload_n 1, 1) := by decide +kernel
theorem dL_law_1047 : decode cL_law 1047 = .ok (.aload_n 0, 1) := by decide +kernel
theorem dL_law_1048 : decode cL_law 1048 = .ok (.iload_n 3, 1) := by decide +kernel
theorem dL_law_1049 : decode cL_law 1049 = .ok (.iconst 1, 1) := by decide +kernel
theorem dL_law_1050 : decode cL_law 1050 = .ok (.iadd, 1) := by decide +kernel
theorem dL_law_1051 : decode cL_law 1051 = .ok (.iaload, 1) := by decide +kernel
theorem dL_law_1052 : decode cL_law 1052 = .ok (.invokevirtual 153, 3) := by decide +kernel
theorem dL_law_1055 : decode cL_law 1055 = .ok (.aload_n 2, 1) := by decide +kernel
theorem dL_law_1056 : decode cL_law 1056 = .ok (.aload_n 0, 1) := by decide +kernel
theorem dL_law_1057 : decode cL_law 1057 = .ok (.iload_n 3, 1) := by decide +kernel
theorem dL_law_1058 : decode cL_law 1058 = .ok (.iconst 1, 1) := by decide +kernel
theorem dL_law_1059 : decode cL_law 1059 = .ok (.iadd, 1) := by decide +kernel
theorem dL_law_1060 : decode cL_law 1060 = .ok (.iaload, 1) := by decide +kernel
theorem dL_law_1061 : decode cL_law 1061 = .ok (.invokevirtual 156, 3) := by decide +kernel
theorem dL_law_1064 : decode cL_law 1064 = .ok (.if_icmp .eq 51, 3) := by decide +kernel
theorem dL_law_1067 : decode cL_law 1067 = .ok (.iconst 0, 1) := by decide +kernel
theorem dL_law_1068 : decode cL_law 1068 = .ok (.ireturn, 1) := by decide +kernel
theorem dL_law_1069 : decode cL_law 1069 = .ok (.aload_n 1, 1) := by decide +kernel
theorem dL_law_1070 : decode cL_law 1070 = .ok (.aload_n 0, 1) := by decide +kernel
theorem dL_law_1071 : decode cL_law 1071 = .ok (.iload_n 3, 1) := by decide +kernel
theorem dL_law_1072 : decode cL_law 1072 = .ok (.iconst 1, 1) := by decide +kernel
theorem dL_law_1073 : decode cL_law 1073 = .ok (.iadd, 1) := by decide +kernel
theorem dL_law_1074 : decode cL_law 1074 = .ok (.iaload, 1) := by decide +kernel
theorem dL_law_1075 : decode cL_law 1075 = .ok (.invokevirtual 157, 3) := by decide +kernel
theorem dL_law_1078 : decode cL_law 1078 = .ok (.aload_n 2, 1) := by decide +kernel
theorem dL_law_1079 : decode cL_law 1079 = .ok (.aload_n 0, 1) := by decide +kernel
theorem dL_law_1080 : decode cL_law 1080 = .ok (.iload_n 3, 1) := by decide +kernel
theorem dL_law_1081 : decode cL_law 1081 = .ok (.iconst 1, 1) := by decide +kernel
theorem dL_law_1082 : decode cL_law 1082 = .ok (.iadd, 1) := by decide +kernel
theorem dL_law_1083 : decode cL_law 1083 = .ok (.iaload, 1) := by decide +kernel
theorem dL_law_1084 : decode cL_law 1084 = .ok (.invokevirtual 160, 3) := by decide +kernel
theorem dL_law_1087 : decode cL_law 1087 = .ok (.if_icmp .eq 28, 3) := by decide +kernel
theorem dL_law_1090 : decode cL_law 1090 = .ok (.iconst 0, 1) := by decide +kernel
theorem dL_law_1091 : decode cL_law 1091 = .ok (.ireturn, 1) := by decide +kernel
theorem dL_law_1092 : decode cL_law 1092 = .ok (.aload_n 1, 1) := by decide +kernel
theorem dL_law_1093 : decode cL_law 1093 = .ok (.aload_n 0, 1) := by decide +kernel
theorem dL_law_1094 : decode cL_law 1094 = .ok (.iload_n 3, 1) := by decide +kernel
theorem dL_law_1095 : decode cL_law 1095 = .ok (.iconst 1, 1) := by decide +kernel
theorem dL_law_1096 : decode cL_law 1096 = .ok (.iadd, 1) := by decide +kernel
theorem dL_law_1097 : decode cL_law 1097 = .ok (.iaload, 1) := by decide +kernel
theorem dL_law_1098 : decode cL_law 1098 = .ok (.invokevirtual 161, 3) := by decide +kernel
theorem dL_law_1101 : decode cL_law 1101 = .ok (.aload_n 2, 1) := by decide +kernel
theorem dL_law_1102 : decode cL_law 1102 = .ok (.aload_n 0, 1) := by decide +kernel
theorem dL_law_1103 : decode cL_law 1103 = .ok (.iload_n 3, 1) := by decide +kernel
theorem dL_law_1104 : decode cL_law 1104 = .ok (.iconst 1, 1) := by decide +kernel
theorem dL_law_1105 : decode cL_law 1105 = .ok (.iadd, 1) := by decide +kernel
theorem dL_law_1106 : decode cL_law 1106 = .ok (.iaload, 1) := by decide +kernel
theorem dL_law_1107 : decode cL_law 1107 = .ok (.invokevirtual 164, 3) := by decide +kernel
theorem dL_law_1110 : decode cL_law 1110 = .ok (.if_icmp .eq 5, 3) := by decide +kernel
theorem dL_law_1113 : decode cL_law 1113 = .ok (.iconst 0, 1) := by decide +kernel
theorem dL_law_1114 : decode cL_law 1114 = .ok (.ireturn, 1) := by decide +kernel
theorem dL_law_1115 : decode cL_law 1115 = .ok (.iinc 3 3, 3) := by decide +kernel
theorem dL_law_1118 : decode cL_law 1118 = .ok (.goto (-1100), 3) := by decide +kernel
theorem dL_law_1121 : decode cL_law 1121 = .ok (.iconst 1, 1) := by decide +kernel
theorem dL_law_1122 : decode cL_law 1122 = .ok (.ireturn, 1) := by decide +kernel
