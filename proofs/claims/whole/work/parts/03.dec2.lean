theorem dX8_otherwise_55 : decode cX8_otherwise 55 = .ok (.iload_n 1, 1) := by decide +kernel
theorem dX8_otherwise_56 : decode cX8_otherwise 56 = .ok (.putfield 116, 3) := by decide +kernel
theorem dX8_otherwise_59 : decode cX8_otherwise 59 = .ok (.iconst 1, 1) := by decide +kernel
theorem dX8_otherwise_60 : decode cX8_otherwise 60 = .ok (.istore_n 2, 1) := by decide +kernel
theorem dX8_otherwise_61 : decode cX8_otherwise 61 = .ok (.iload_n 2, 1) := by decide +kernel
theorem dX8_otherwise_62 : decode cX8_otherwise 62 = .ok (.bipush 100, 2) := by decide +kernel
theorem dX8_otherwise_64 : decode cX8_otherwise 64 = .ok (.if_icmp .gt 42, 3) := by decide +kernel
theorem dX8_otherwise_67 : decode cX8_otherwise 67 = .ok (.aload_n 0, 1) := by decide +kernel
theorem dX8_otherwise_68 : decode cX8_otherwise 68 = .ok (.getfield 53, 3) := by decide +kernel
theorem dX8_otherwise_71 : decode cX8_otherwise 71 = .ok (.invokevirtual 230, 3) := by decide +kernel
theorem dX8_otherwise_74 : decode cX8_otherwise 74 = .ok (.aload_n 0, 1) := by decide +kernel
theorem dX8_otherwise_75 : decode cX8_otherwise 75 = .ok (.getfield 57, 3) := by decide +kernel
theorem dX8_otherwise_78 : decode cX8_otherwise 78 = .ok (.invokevirtual 230, 3) := by decide +kernel
theorem dX8_otherwise_81 : decode cX8_otherwise 81 = .ok (.aload_n 0, 1) := by decide +kernel
theorem dX8_otherwise_82 : decode cX8_otherwise 82 = .ok (.getfield 53, 3) := by decide +kernel
theorem dX8_otherwise_85 : decode cX8_otherwise 85 = .ok (.getfield 122, 3) := by decide +kernel
theorem dX8_otherwise_88 : decode cX8_otherwise 88 = .ok (.aload_n 0, 1) := by decide +kernel
theorem dX8_otherwise_89 : decode cX8_otherwise 89 = .ok (.getfield 57, 3) := by decide +kernel
theorem dX8_otherwise_92 : decode cX8_otherwise 92 = .ok (.getfield 122, 3) := by decide +kernel
theorem dX8_otherwise_95 : decode cX8_otherwise 95 = .ok (.if_icmp .eq 5, 3) := by decide +kernel
theorem dX8_otherwise_98 : decode cX8_otherwise 98 = .ok (.iload_n 2, 1) := by decide +kernel
theorem dX8_otherwise_99 : decode cX8_otherwise 99 = .ok (.ireturn, 1) := by decide +kernel
theorem dX8_otherwise_100 : decode cX8_otherwise 100 = .ok (.iinc 2 1, 3) := by decide +kernel
theorem dX8_otherwise_103 : decode cX8_otherwise 103 = .ok (.goto (-42), 3) := by decide +kernel
theorem dX8_otherwise_106 : decode cX8_otherwise 106 = .ok (.iconst (-1), 1) := by decide +kernel
theorem dX8_otherwise_107 : decode cX8_otherwise 107 = .ok (.ireturn, 1) := by decide +kernel
theorem dX8_write_0 : decode cX8_write 0 = .ok (.aload_n 0, 1) := by decide +kernel
theorem dX8_write_1 : decode cX8_write 1 = .ok (.iload_n 1, 1) := by decide +kernel
theorem dX8_write_2 : decode cX8_write 2 = .ok (.invokevirtual 151, 3) := by decide +kernel
theorem dX8_write_5 : decode cX8_write 5 = .ok (.ifCond .eq 6, 3) := by decide +kernel
theorem dX8_write_8 : decode cX8_write 8 = .ok (.ldc 155, 2) := by decide +kernel
theorem dX8_write_10 : decode cX8_write 10 = .ok (.ireturn, 1) := by decide +kernel
theorem dX8_write_11 : decode cX8_write 11 = .ok (.iload_n 2, 1) := by decide +kernel
theorem dX8_write_12 : decode cX8_write 12 = .ok (.ifCond .lt 10, 3) := by decide +kernel
theorem dX8_write_15 : decode cX8_write 15 = .ok (.iload_n 2, 1) := by decide +kernel
theorem dX8_write_16 : decode cX8_write 16 = .ok (.sipush 9999, 3) := by decide +kernel
theorem dX8_write_19 : decode cX8_write 19 = .ok (.if_icmp .le 6, 3) := by decide +kernel
theorem dX8_write_22 : decode cX8_write 22 = .ok (.ldc 65, 2) := by decide +kernel
theorem dX8_write_24 : decode cX8_write 24 = .ok (.ireturn, 1) := by decide +kernel
theorem dX8_write_25 : decode cX8_write 25 = .ok (.aload_n 0, 1) := by decide +kernel
theorem dX8_write_26 : decode cX8_write 26 = .ok (.getfield 46, 3) := by decide +kernel
theorem dX8_write_29 : decode cX8_write 29 = .ok (.getfield 91, 3) := by decide +kernel
theorem dX8_write_32 : decode cX8_write 32 = .ok (.bipush 15, 2) := by decide +kernel
theorem dX8_write_34 : decode cX8_write 34 = .ok (.if_icmp .lt 6, 3) := by decide +kernel
theorem dX8_write_37 : decode cX8_write 37 = .ok (.ldc 70, 2) := by decide +kernel
theorem dX8_write_39 : decode cX8_write 39 = .ok (.ireturn, 1) := by decide +kernel
theorem dX8_write_40 : decode cX8_write 40 = .ok (.aload_n 0, 1) := by decide +kernel
theorem dX8_write_41 : decode cX8_write 41 = .ok (.getfield 46, 3) := by decide +kernel
theorem dX8_write_44 : decode cX8_write 44 = .ok (.iload_n 1, 1) := by decide +kernel
theorem dX8_write_45 : decode cX8_write 45 = .ok (.iload_n 2, 1) := by decide +kernel
theorem dX8_write_46 : decode cX8_write 46 = .ok (.invokevirtual 286, 3) := by decide +kernel
theorem dX8_write_49 : decode cX8_write 49 = .ok (.aload_n 0, 1) := by decide +kernel
theorem dX8_write_50 : decode cX8_write 50 = .ok (.getfield 46, 3) := by decide +kernel
theorem dX8_write_53 : decode cX8_write 53 = .ok (.getfield 91, 3) := by decide +kernel
theorem dX8_write_56 : decode cX8_write 56 = .ok (.ireturn, 1) := by decide +kernel
theorem dX8_tear_0 : decode cX8_tear 0 = .ok (.aload_n 0, 1) := by decide +kernel
theorem dX8_tear_1 : decode cX8_tear 1 = .ok (.getfield 46, 3) := by decide +kernel
theorem dX8_tear_4 : decode cX8_tear 4 = .ok (.getfield 91, 3) := by decide +kernel
theorem dX8_tear_7 : decode cX8_tear 7 = .ok (.istore_n 1, 1) := by decide +kernel
theorem dX8_tear_8 : decode cX8_tear 8 = .ok (.aload_n 0, 1) := by decide +kernel
theorem dX8_tear_9 : decode cX8_tear 9 = .ok (.getfield 46, 3) := by decide +kernel
theorem dX8_tear_12 : decode cX8_tear 12 = .ok (.iconst 0, 1) := by decide +kernel
theorem dX8_tear_13 : decode cX8_tear 13 = .ok (.putfield 91, 3) := by decide +kernel
theorem dX8_tear_16 : decode cX8_tear 16 = .ok (.iload_n 1, 1) := by decide +kernel
theorem dX8_tear_17 : decode cX8_tear 17 = .ok (.ireturn, 1) := by decide +kernel
theorem dX8_judge_0 : decode cX8_judge 0 = .ok (.aload_n 0, 1) := by decide +kernel
theorem dX8_judge_1 : decode cX8_judge 1 = .ok (.getfield 46, 3) := by decide +kernel
theorem dX8_judge_4 : decode cX8_judge 4 = .ok (.aload_n 0, 1) := by decide +kernel
theorem dX8_judge_5 : decode cX8_judge 5 = .ok (.getfield 26, 3) := by decide +kernel
theorem dX8_judge_8 : decode cX8_judge 8 = .ok (.getfield 163, 3) := by decide +kernel
theorem dX8_judge_11 : decode cX8_judge 11 = .ok (.invokevirtual 289, 3) := by decide +kernel
theorem dX8_judge_14 : decode cX8_judge 14 = .ok (.ireturn, 1) := by decide +kernel
theorem dX8_seed_0 : decode cX8_seed 0 = .ok (.iload_n 1, 1) := by decide +kernel
theorem dX8_seed_1 : decode cX8_seed 1 = .ok (.ifCond .ge 6, 3) := by decide +kernel
theorem dX8_seed_4 : decode cX8_seed 4 = .ok (.ldc 65, 2) := by decide +kernel
theorem dX8_seed_6 : decode cX8_seed 6 = .ok (.ireturn, 1) := by decide +kernel
theorem dX8_seed_7 : decode cX8_seed 7 = .ok (.aload_n 0, 1) := by decide +kernel
theorem dX8_seed_8 : decode cX8_seed 8 = .ok (.getfield 293, 3) := by decide +kernel
theorem dX8_seed_11 : decode cX8_seed 11 = .ok (.istore_n 2, 1) := by decide +kernel
theorem dX8_seed_12 : decode cX8_seed 12 = .ok (.aload_n 0, 1) := by decide +kernel
theorem dX8_seed_13 : decode cX8_seed 13 = .ok (.iload_n 1, 1) := by decide +kernel
theorem dX8_seed_14 : decode cX8_seed 14 = .ok (.putfield 293, 3) := by decide +kernel
theorem dX8_seed_17 : decode cX8_seed 17 = .ok (.iload_n 2, 1) := by decide +kernel
theorem dX8_seed_18 : decode cX8_seed 18 = .ok (.ireturn, 1) := by decide +kernel
theorem dX8_keep_0 : decode cX8_keep 0 = .ok (.iload_n 1, 1) := by decide +kernel
theorem dX8_keep_1 : decode cX8_keep 1 = .ok (.ifCond .lt 8, 3) := by decide +kernel
theorem dX8_keep_4 : decode cX8_keep 4 = .ok (.iload_n 1, 1) := by decide +kernel
theorem dX8_keep_5 : decode cX8_keep 5 = .ok (.iconst 2, 1) := by decide +kernel
theorem dX8_keep_6 : decode cX8_keep 6 = .ok (.if_icmp .lt 6, 3) := by decide +kernel
theorem dX8_keep_9 : decode cX8_keep 9 = .ok (.ldc 155, 2) := by decide +kernel
theorem dX8_keep_11 : decode cX8_keep 11 = .ok (.ireturn, 1) := by decide +kernel
theorem dX8_keep_12 : decode cX8_keep 12 = .ok (.aload_n 0, 1) := by decide +kernel
theorem dX8_keep_13 : decode cX8_keep 13 = .ok (.getfield 39, 3) := by decide +kernel
theorem dX8_keep_16 : decode cX8_keep 16 = .ok (.iload_n 1, 1) := by decide +kernel
theorem dX8_keep_17 : decode cX8_keep 17 = .ok (.aaload, 1) := by decide +kernel
theorem dX8_keep_18 : decode cX8_keep 18 = .ok (.astore_n 2, 1) := by decide +kernel
theorem dX8_keep_19 : decode cX8_keep 19 = .ok (.aload_n 2, 1) := by decide +kernel
theorem dX8_keep_20 : decode cX8_keep 20 = .ok (.iconst 1, 1) := by decide +kernel
theorem dX8_keep_21 : decode cX8_keep 21 = .ok (.putfield 94, 3) := by decide +kernel
theorem dX8_keep_24 : decode cX8_keep 24 = .ok (.aload_n 2, 1) := by decide +kernel
theorem dX8_keep_25 : decode cX8_keep 25 = .ok (.aload_n 0, 1) := by decide +kernel
theorem dX8_keep_26 : decode cX8_keep 26 = .ok (.getfield 293, 3) := by decide +kernel
theorem dX8_keep_29 : decode cX8_keep 29 = .ok (.putfield 296, 3) := by decide +kernel
theorem dX8_keep_32 : decode cX8_keep 32 = .ok (.aload_n 2, 1) := by decide +kernel
theorem dX8_keep_33 : decode cX8_keep 33 = .ok (.getfield 299, 3) := by decide +kernel
theorem dX8_keep_36 : decode cX8_keep 36 = .ok (.aload_n 0, 1) := by decide +kernel
theorem dX8_keep_37 : decode cX8_keep 37 = .ok (.getfield 26, 3) := by decide +kernel
theorem dX8_keep_40 : decode cX8_keep 40 = .ok (.invokevirtual 302, 3) := by decide +kernel
theorem dX8_keep_43 : decode cX8_keep 43 = .ok (.aload_n 0, 1) := by decide +kernel
theorem dX8_keep_44 : decode cX8_keep 44 = .ok (.getfield 33, 3) := by decide +kernel
theorem dX8_keep_47 : decode cX8_keep 47 = .ok (.invokevirtual 88, 3) := by decide +kernel
theorem dX8_keep_50 : decode cX8_keep 50 = .ok (.iconst 1, 1) := by decide +kernel
theorem dX8_keep_51 : decode cX8_keep 51 = .ok (.ireturn, 1) := by decide +kernel
theorem dX8_goBack_0 : decode cX8_goBack 0 = .ok (.iload_n 1, 1) := by decide +kernel
theorem dX8_goBack_1 : decode cX8_goBack 1 = .ok (.ifCond .lt 8, 3) := by decide +kernel
theorem dX8_goBack_4 : decode cX8_goBack 4 = .ok (.iload_n 1, 1) := by decide +kernel
theorem dX8_goBack_5 : decode cX8_goBack 5 = .ok (.iconst 2, 1) := by decide +kernel
theorem dX8_goBack_6 : decode cX8_goBack 6 = .ok (.if_icmp .lt 6, 3) := by decide +kernel
theorem dX8_goBack_9 : decode cX8_goBack 9 = .ok (.ldc 155, 2) := by decide +kernel
theorem dX8_goBack_11 : decode cX8_goBack 11 = .ok (.ireturn, 1) := by decide +kernel
theorem dX8_goBack_12 : decode cX8_goBack 12 = .ok (.aload_n 0, 1) := by decide +kernel
theorem dX8_goBack_13 : decode cX8_goBack 13 = .ok (.getfield 39, 3) := by decide +kernel
theorem dX8_goBack_16 : decode cX8_goBack 16 = .ok (.iload_n 1, 1) := by decide +kernel
theorem dX8_goBack_17 : decode cX8_goBack 17 = .ok (.aaload, 1) := by decide +kernel
theorem dX8_goBack_18 : decode cX8_goBack 18 = .ok (.astore_n 2, 1) := by decide +kernel
theorem dX8_goBack_19 : decode cX8_goBack 19 = .ok (.aload_n 2, 1) := by decide +kernel
theorem dX8_goBack_20 : decode cX8_goBack 20 = .ok (.getfield 94, 3) := by decide +kernel
theorem dX8_goBack_23 : decode cX8_goBack 23 = .ok (.ifCond .ne 6, 3) := by decide +kernel
theorem dX8_goBack_26 : decode cX8_goBack 26 = .ok (.ldc 216, 2) := by decide +kernel
theorem dX8_goBack_28 : decode cX8_goBack 28 = .ok (.ireturn, 1) := by decide +kernel
theorem dX8_goBack_29 : decode cX8_goBack 29 = .ok (.aload_n 0, 1) := by decide +kernel
theorem dX8_goBack_30 : decode cX8_goBack 30 = .ok (.aload_n 2, 1) := by decide +kernel
theorem dX8_goBack_31 : decode cX8_goBack 31 = .ok (.getfield 296, 3) := by decide +kernel
theorem dX8_goBack_34 : decode cX8_goBack 34 = .ok (.putfield 293, 3) := by decide +kernel
theorem dX8_goBack_37 : decode cX8_goBack 37 = .ok (.aload_n 0, 1) := by decide +kernel
theorem dX8_goBack_38 : decode cX8_goBack 38 = .ok (.getfield 26, 3) := by decide +kernel
theorem dX8_goBack_41 : decode cX8_goBack 41 = .ok (.aload_n 2, 1) := by decide +kernel
theorem dX8_goBack_42 : decode cX8_goBack 42 = .ok (.getfield 299, 3) := by decide +kernel
theorem dX8_goBack_45 : decode cX8_goBack 45 = .ok (.invokevirtual 302, 3) := by decide +kernel
theorem dX8_goBack_48 : decode cX8_goBack 48 = .ok (.aload_n 0, 1) := by decide +kernel
theorem dX8_goBack_49 : decode cX8_goBack 49 = .ok (.getfield 33, 3) := by decide +kernel
theorem dX8_goBack_52 : decode cX8_goBack 52 = .ok (.invokevirtual 88, 3) := by decide +kernel
theorem dX8_goBack_55 : decode cX8_goBack 55 = .ok (.iconst 1, 1) := by decide +kernel
theorem dX8_goBack_56 : decode cX8_goBack 56 = .ok (.ireturn, 1) := by decide +kernel
theorem dX8_isNoRoom_0 : decode cX8_isNoRoom 0 = .ok (.iload_n 1, 1) := by decide +kernel
theorem dX8_isNoRoom_1 : decode cX8_isNoRoom 1 = .ok (.ifCond .lt 14, 3) := by decide +kernel
theorem dX8_isNoRoom_4 : decode cX8_isNoRoom 4 = .ok (.iload_n 1, 1) := by decide +kernel
theorem dX8_isNoRoom_5 : decode cX8_isNoRoom 5 = .ok (.aload_n 0, 1) := by decide +kernel
theorem dX8_isNoRoom_6 : decode cX8_isNoRoom 6 = .ok (.getfield 19, 3) := by decide +kernel
theorem dX8_isNoRoom_9 : decode cX8_isNoRoom 9 = .ok (.getfield 98, 3) := by decide +kernel
theorem dX8_isNoRoom_12 : decode cX8_isNoRoom 12 = .ok (.if_icmp .lt 7, 3) := by decide +kernel
theorem dX8_isNoRoom_15 : decode cX8_isNoRoom 15 = .ok (.iconst 1, 1) := by decide +kernel
theorem dX8_isNoRoom_16 : decode cX8_isNoRoom 16 = .ok (.goto 4, 3) := by decide +kernel
theorem dX8_isNoRoom_19 : decode cX8_isNoRoom 19 = .ok (.iconst 0, 1) := by decide +kernel
theorem dX8_isNoRoom_20 : decode cX8_isNoRoom 20 = .ok (.ireturn, 1) := by decide +kernel
theorem dX8_isNoPetition_0 : decode cX8_isNoPetition 0 = .ok (.iload_n 1, 1) := by decide +kernel
theorem dX8_isNoPetition_1 : decode cX8_isNoPetition 1 = .ok (.ifCond .lt 14, 3) := by decide +kernel
theorem dX8_isNoPetition_4 : decode cX8_isNoPetition 4 = .ok (.iload_n 1, 1) := by decide +kernel
theorem dX8_isNoPetition_5 : decode cX8_isNoPetition 5 = .ok (.aload_n 0, 1) := by decide +kernel
theorem dX8_isNoPetition_6 : decode cX8_isNoPetition 6 = .ok (.getfield 19, 3) := by decide +kernel
theorem dX8_isNoPetition_9 : decode cX8_isNoPetition 9 = .ok (.getfield 107, 3) := by decide +kernel
theorem dX8_isNoPetition_12 : decode cX8_isNoPetition 12 = .ok (.if_icmp .lt 7, 3) := by decide +kernel
theorem dX8_isNoPetition_15 : decode cX8_isNoPetition 15 = .ok (.iconst 1, 1) := by decide +kernel
theorem dX8_isNoPetition_16 : decode cX8_isNoPetition 16 = .ok (.goto 4, 3) := by decide +kernel
theorem dX8_isNoPetition_19 : decode cX8_isNoPetition 19 = .ok (.iconst 0, 1) := by decide +kernel
theorem dX8_isNoPetition_20 : decode cX8_isNoPetition 20 = .ok (.ireturn, 1) := by decide +kernel
theorem dX8_isNoRule_0 : decode cX8_isNoRule 0 = .ok (.iload_n 0, 1) := by decide +kernel
theorem dX8_isNoRule_1 : decode cX8_isNoRule 1 = .ok (.ifCond .lt 9, 3) := by decide +kernel
theorem dX8_isNoRule_4 : decode cX8_isNoRule 4 = .ok (.iload_n 0, 1) := by decide +kernel
theorem dX8_isNoRule_5 : decode cX8_isNoRule 5 = .ok (.bipush 64, 2) := by decide +kernel
theorem dX8_isNoRule_7 : decode cX8_isNoRule 7 = .ok (.if_icmp .lt 7, 3) := by decide +kernel
theorem dX8_isNoRule_10 : decode cX8_isNoRule 10 = .ok (.iconst 1, 1) := by decide +kernel
theorem dX8_isNoRule_11 : decode cX8_isNoRule 11 = .ok (.goto 4, 3) := by decide +kernel
theorem dX8_isNoRule_14 : decode cX8_isNoRule 14 = .ok (.iconst 0, 1) := by decide +kernel
theorem dX8_isNoRule_15 : decode cX8_isNoRule 15 = .ok (.ireturn, 1) := by decide +kernel
theorem dX8_refusalOfHours_0 : decode cX8_refusalOfHours 0 = .ok (.iload_n 1, 1) := by decide +kernel
theorem dX8_refusalOfHours_1 : decode cX8_refusalOfHours 1 = .ok (.iconst 1, 1) := by decide +kernel
theorem dX8_refusalOfHours_2 : decode cX8_refusalOfHours 2 = .ok (.if_icmp .lt 9, 3) := by decide +kernel
theorem dX8_refusalOfHours_5 : decode cX8_refusalOfHours 5 = .ok (.iload_n 1, 1) := by decide +kernel
theorem dX8_refusalOfHours_6 : decode cX8_refusalOfHours 6 = .ok (.bipush 60, 2) := by decide +kernel
theorem dX8_refusalOfHours_8 : decode cX8_refusalOfHours 8 = .ok (.if_icmp .le 6, 3) := by decide +kernel
theorem dX8_refusalOfHours_11 : decode cX8_refusalOfHours 11 = .ok (.ldc 65, 2) := by decide +kernel
theorem dX8_refusalOfHours_13 : decode cX8_refusalOfHours 13 = .ok (.ireturn, 1) := by decide +kernel
theorem dX8_refusalOfHours_14 : decode cX8_refusalOfHours 14 = .ok (.aload_n 0, 1) := by decide +kernel
theorem dX8_refusalOfHours_15 : decode cX8_refusalOfHours 15 = .ok (.getfield 19, 3) := by decide +kernel
theorem dX8_refusalOfHours_18 : decode cX8_refusalOfHours 18 = .ok (.getfield 98, 3) := by decide +kernel
theorem dX8_refusalOfHours_21 : decode cX8_refusalOfHours 21 = .ok (.ifCond .ne 6, 3) := by decide +kernel
theorem dX8_refusalOfHours_24 : decode cX8_refusalOfHours 24 = .ok (.ldc 216, 2) := by decide +kernel
theorem dX8_refusalOfHours_26 : decode cX8_refusalOfHours 26 = .ok (.ireturn, 1) := by decide +kernel
theorem dX8_refusalOfHours_27 : decode cX8_refusalOfHours 27 = .ok (.aload_n 0, 1) := by decide +kernel
theorem dX8_refusalOfHours_28 : decode cX8_refusalOfHours 28 = .ok (.getfield 26, 3) := by decide +kernel
theorem dX8_refusalOfHours_31 : decode cX8_refusalOfHours 31 = .ok (.getfield 119, 3) := by decide +kernel
theorem dX8_refusalOfHours_34 : decode cX8_refusalOfHours 34 = .ok (.sipush 9000, 3) := by decide +kernel
theorem dX8_refusalOfHours_37 : decode cX8_refusalOfHours 37 = .ok (.if_icmp .le 8, 3) := by decide +kernel
theorem dX8_refusalOfHours_40 : decode cX8_refusalOfHours 40 = .ok (.ldc 70, 2) := by decide +kernel
theorem dX8_refusalOfHours_42 : decode cX8_refusalOfHours 42 = .ok (.goto 4, 3) := by decide +kernel
theorem dX8_refusalOfHours_45 : decode cX8_refusalOfHours 45 = .ok (.iconst 0, 1) := by decide +kernel
theorem dX8_refusalOfHours_46 : decode cX8_refusalOfHours 46 = .ok (.ireturn, 1) := by decide +kernel
theorem dX8_draw_0 : decode cX8_draw 0 = .ok (.aload_n 0, 1) := by decide +kernel
theorem dX8_draw_1 : decode cX8_draw 1 = .ok (.aload_n 0, 1) := by decide +kernel
theorem dX8_draw_2 : decode cX8_draw 2 = .ok (.getfield 293, 3) := by decide +kernel
theorem dX8_draw_5 : decode cX8_draw 5 = .ok (.i2l, 1) := by decide +kernel
theorem dX8_draw_6 : decode cX8_draw 6 = .ok (.ldc2_w 304, 3) := by decide +kernel
theorem dX8_draw_9 : decode cX8_draw 9 = .ok (.lmul, 1) := by decide +kernel
theorem dX8_draw_10 : decode cX8_draw 10 = .ok (.ldc2_w 306, 3) := by decide +kernel
theorem dX8_draw_13 : decode cX8_draw 13 = .ok (.ladd, 1) := by decide +kernel
theorem dX8_draw_14 : decode cX8_draw 14 = .ok (.ldc2_w 308, 3) := by decide +kernel
theorem dX8_draw_17 : decode cX8_draw 17 = .ok (.land, 1) := by decide +kernel
theorem dX8_draw_18 : decode cX8_draw 18 = .ok (.l2i, 1) := by decide +kernel
theorem dX8_draw_19 : decode cX8_draw 19 = .ok (.putfield 293, 3) := by decide +kernel
theorem dX8_draw_22 : decode cX8_draw 22 = .ok (.iload_n 1, 1) := by decide +kernel
theorem dX8_draw_23 : decode cX8_draw 23 = .ok (.ifCond .le 16, 3) := by decide +kernel
theorem dX8_draw_26 : decode cX8_draw 26 = .ok (.aload_n 0, 1) := by decide +kernel
theorem dX8_draw_27 : decode cX8_draw 27 = .ok (.getfield 293, 3) := by decide +kernel
theorem dX8_draw_30 : decode cX8_draw 30 = .ok (.ldc_w 310, 3) := by decide +kernel
theorem dX8_draw_33 : decode cX8_draw 33 = .ok (.idiv, 1) := by decide +kernel
theorem dX8_draw_34 : decode cX8_draw 34 = .ok (.iload_n 1, 1) := by decide +kernel
theorem dX8_draw_35 : decode cX8_draw 35 = .ok (.irem, 1) := by decide +kernel
theorem dX8_draw_36 : decode cX8_draw 36 = .ok (.goto 4, 3) := by decide +kernel
theorem dX8_draw_39 : decode cX8_draw 39 = .ok (.iconst 0, 1) := by decide +kernel
theorem dX8_draw_40 : decode cX8_draw 40 = .ok (.ireturn, 1) := by decide +kernel
theorem dX8_changeByDraws_0 : decode cX8_changeByDraws 0 = .ok (.aload_n 0, 1) := by decide +kernel
theorem dX8_changeByDraws_1 : decode cX8_changeByDraws 1 = .ok (.getfield 26, 3) := by decide +kernel
theorem dX8_changeByDraws_4 : decode cX8_changeByDraws 4 = .ok (.getfield 113, 3) := by decide +kernel
theorem dX8_changeByDraws_7 : decode cX8_changeByDraws 7 = .ok (.astore_n 1, 1) := by decide +kernel
theorem dX8_changeByDraws_8 : decode cX8_changeByDraws 8 = .ok (.aload_n 0, 1) := by decide +kernel
theorem dX8_changeByDraws_9 : decode cX8_changeByDraws 9 = .ok (.aload_n 0, 1) := by decide +kernel
theorem dX8_changeByDraws_10 : decode cX8_changeByDraws 10 = .ok (.getfield 19, 3) := by decide +kernel
theorem dX8_changeByDraws_13 : decode cX8_changeByDraws 13 = .ok (.getfield 98, 3) := by decide +kernel
theorem dX8_changeByDraws_16 : decode cX8_changeByDraws 16 = .ok (.invokevirtual 311, 3) := by decide +kernel
theorem dX8_changeByDraws_19 : decode cX8_changeByDraws 19 = .ok (.istore_n 2, 1) := by decide +kernel
theorem dX8_changeByDraws_20 : decode cX8_changeByDraws 20 = .ok (.aload_n 0, 1) := by decide +kernel
theorem dX8_changeByDraws_21 : decode cX8_changeByDraws 21 = .ok (.iconst 5, 1) := by decide +kernel
theorem dX8_changeByDraws_22 : decode cX8_changeByDraws 22 = .ok (.invokevirtual 311, 3) := by decide +kernel
theorem dX8_changeByDraws_25 : decode cX8_changeByDraws 25 = .ok (.tableswitch 100 0 3 #[31, 47, 63, 84], 31) := by decide +kernel
theorem dX8_changeByDraws_56 : decode cX8_changeByDraws 56 = .ok (.aload_n 1, 1) := by decide +kernel
theorem dX8_changeByDraws_57 : decode cX8_changeByDraws 57 = .ok (.aload_n 1, 1) := by decide +kernel
theorem dX8_changeByDraws_58 : decode cX8_changeByDraws 58 = .ok (.getfield 128, 3) := by decide +kernel
theorem dX8_changeByDraws_61 : decode cX8_changeByDraws 61 = .ok (.iload_n 2, 1) := by decide +kernel
theorem dX8_changeByDraws_62 : decode cX8_changeByDraws 62 = .ok (.iconst 1, 1) := by decide +kernel
theorem dX8_changeByDraws_63 : decode cX8_changeByDraws 63 = .ok (.invokestatic 198, 3) := by decide +kernel
theorem dX8_changeByDraws_66 : decode cX8_changeByDraws 66 = .ok (.putfield 128, 3) := by decide +kernel
theorem dX8_changeByDraws_69 : decode cX8_changeByDraws 69 = .ok (.goto 69, 3) := by decide +kernel
theorem dX8_changeByDraws_72 : decode cX8_changeByDraws 72 = .ok (.aload_n 1, 1) := by decide +kernel
theorem dX8_changeByDraws_73 : decode cX8_changeByDraws 73 = .ok (.aload_n 1, 1) := by decide +kernel
theorem dX8_changeByDraws_74 : decode cX8_changeByDraws 74 = .ok (.getfield 128, 3) := by decide +kernel
theorem dX8_changeByDraws_77 : decode cX8_changeByDraws 77 = .ok (.iload_n 2, 1) := by decide +kernel
theorem dX8_changeByDraws_78 : decode cX8_changeByDraws 78 = .ok (.iconst 0, 1) := by decide +kernel
theorem dX8_changeByDraws_79 : decode cX8_changeByDraws 79 = .ok (.invokestatic 198, 3) := by decide +kernel
theorem dX8_changeByDraws_82 : decode cX8_changeByDraws 82 = .ok (.putfield 128, 3) := by decide +kernel
theorem dX8_changeByDraws_85 : decode cX8_changeByDraws 85 = .ok (.goto 53, 3) := by decide +kernel
theorem dX8_changeByDraws_88 : decode cX8_changeByDraws 88 = .ok (.aload_n 1, 1) := by decide +kernel
theorem dX8_changeByDraws_89 : decode cX8_changeByDraws 89 = .ok (.aload_n 1, 1) := by decide +kernel
theorem dX8_changeByDraws_90 : decode cX8_changeByDraws 90 = .ok (.getfield 156, 3) := by decide +kernel
theorem dX8_changeByDraws_93 : decode cX8_changeByDraws 93 = .ok (.iload_n 2, 1) := by decide +kernel
theorem dX8_changeByDraws_94 : decode cX8_changeByDraws 94 = .ok (.aload_n 0, 1) := by decide +kernel
theorem dX8_changeByDraws_95 : decode cX8_changeByDraws 95 = .ok (.bipush 10, 2) := by decide +kernel
theorem dX8_changeByDraws_97 : decode cX8_changeByDraws 97 = .ok (.invokevirtual 311, 3) := by decide +kernel
theorem dX8_changeByDraws_100 : decode cX8_changeByDraws 100 = .ok (.invokestatic 202, 3) := by decide +kernel
theorem dX8_changeByDraws_103 : decode cX8_changeByDraws 103 = .ok (.putfield 156, 3) := by decide +kernel
theorem dX8_changeByDraws_106 : decode cX8_changeByDraws 106 = .ok (.goto 32, 3) := by decide +kernel
theorem dX8_changeByDraws_109 : decode cX8_changeByDraws 109 = .ok (.aload_n 1, 1) := by decide +kernel
theorem dX8_changeByDraws_110 : decode cX8_changeByDraws 110 = .ok (.aload_n 1, 1) := by decide +kernel
theorem dX8_changeByDraws_111 : decode cX8_changeByDraws 111 = .ok (.getfield 131, 3) := by decide +kernel
theorem dX8_changeByDraws_114 : decode cX8_changeByDraws 114 = .ok (.iload_n 2, 1) := by decide +kernel
theorem dX8_changeByDraws_115 : decode cX8_changeByDraws 115 = .ok (.iconst 1, 1) := by decide +kernel
theorem dX8_changeByDraws_116 : decode cX8_changeByDraws 116 = .ok (.invokestatic 198, 3) := by decide +kernel
theorem dX8_changeByDraws_119 : decode cX8_changeByDraws 119 = .ok (.putfield 131, 3) := by decide +kernel
theorem dX8_changeByDraws_122 : decode cX8_changeByDraws 122 = .ok (.goto 16, 3) := by decide +kernel
theorem dX8_changeByDraws_125 : decode cX8_changeByDraws 125 = .ok (.aload_n 1, 1) := by decide +kernel
theorem dX8_changeByDraws_126 : decode cX8_changeByDraws 126 = .ok (.aload_n 1, 1) := by decide +kernel
theorem dX8_changeByDraws_127 : decode cX8_changeByDraws 127 = .ok (.getfield 131, 3) := by decide +kernel
theorem dX8_changeByDraws_130 : decode cX8_changeByDraws 130 = .ok (.iload_n 2, 1) := by decide +kernel
theorem dX8_changeByDraws_131 : decode cX8_changeByDraws 131 = .ok (.iconst 0, 1) := by decide +kernel
theorem dX8_changeByDraws_132 : decode cX8_changeByDraws 132 = .ok (.invokestatic 198, 3) := by decide +kernel
theorem dX8_changeByDraws_135 : decode cX8_changeByDraws 135 = .ok (.putfield 131, 3) := by decide +kernel
theorem dX8_changeByDraws_138 : decode cX8_changeByDraws 138 = .ok (.return_, 1) := by decide +kernel
theorem dX8_hoursUntil_0 : decode cX8_hoursUntil 0 = .ok (.iconst 0, 1) := by decide +kernel
theorem dX8_hoursUntil_1 : decode cX8_hoursUntil 1 = .ok (.istore_n 3, 1) := by decide +kernel
theorem dX8_hoursUntil_2 : decode cX8_hoursUntil 2 = .ok (.iload_n 3, 1) := by decide +kernel
theorem dX8_hoursUntil_3 : decode cX8_hoursUntil 3 = .ok (.iload_n 2, 1) := by decide +kernel
theorem dX8_hoursUntil_4 : decode cX8_hoursUntil 4 = .ok (.if_icmp .ge 29, 3) := by decide +kernel
theorem dX8_hoursUntil_7 : decode cX8_hoursUntil 7 = .ok (.aload_n 0, 1) := by decide +kernel
theorem dX8_hoursUntil_8 : decode cX8_hoursUntil 8 = .ok (.getfield 53, 3) := by decide +kernel
theorem dX8_hoursUntil_11 : decode cX8_hoursUntil 11 = .ok (.getfield 122, 3) := by decide +kernel
theorem dX8_hoursUntil_14 : decode cX8_hoursUntil 14 = .ok (.iload_n 1, 1) := by decide +kernel
theorem dX8_hoursUntil_15 : decode cX8_hoursUntil 15 = .ok (.if_icmp .ne 5, 3) := by decide +kernel
theorem dX8_hoursUntil_18 : decode cX8_hoursUntil 18 = .ok (.iload_n 3, 1) := by decide +kernel
theorem dX8_hoursUntil_19 : decode cX8_hoursUntil 19 = .ok (.ireturn, 1) := by decide +kernel
theorem dX8_hoursUntil_20 : decode cX8_hoursUntil 20 = .ok (.aload_n 0, 1) := by decide +kernel
theorem dX8_hoursUntil_21 : decode cX8_hoursUntil 21 = .ok (.getfield 53, 3) := by decide +kernel
theorem dX8_hoursUntil_24 : decode cX8_hoursUntil 24 = .ok (.invokevirtual 230, 3) := by decide +kernel
theorem dX8_hoursUntil_27 : decode cX8_hoursUntil 27 = .ok (.iinc 3 1, 3) := by decide +kernel
theorem dX8_hoursUntil_30 : decode cX8_hoursUntil 30 = .ok (.goto (-28), 3) := by decide +kernel
theorem dX8_hoursUntil_33 : decode cX8_hoursUntil 33 = .ok (.aload_n 0, 1) := by decide +kernel
theorem dX8_hoursUntil_34 : decode cX8_hoursUntil 34 = .ok (.getfield 53, 3) := by decide +kernel
theorem dX8_hoursUntil_37 : decode cX8_hoursUntil 37 = .ok (.getfield 122, 3) := by decide +kernel
theorem dX8_hoursUntil_40 : decode cX8_hoursUntil 40 = .ok (.iload_n 1, 1) := by decide +kernel
theorem dX8_hoursUntil_41 : decode cX8_hoursUntil 41 = .ok (.if_icmp .ne 7, 3) := by decide +kernel
theorem dX8_hoursUntil_44 : decode cX8_hoursUntil 44 = .ok (.iload_n 2, 1) := by decide +kernel
theorem dX8_hoursUntil_45 : decode cX8_hoursUntil 45 = .ok (.goto 4, 3) := by decide +kernel
theorem dX8_hoursUntil_48 : decode cX8_hoursUntil 48 = .ok (.iconst (-1), 1) := by decide +kernel
theorem dX8_hoursUntil_49 : decode cX8_hoursUntil 49 = .ok (.ireturn, 1) := by decide +kernel
theorem dX8_isBetterSet_0 : decode cX8_isBetterSet 0 = .ok (.iload_n 1, 1) := by decide +kernel
theorem dX8_isBetterSet_1 : decode cX8_isBetterSet 1 = .ok (.iconst (-1), 1) := by decide +kernel
theorem dX8_isBetterSet_2 : decode cX8_isBetterSet 2 = .ok (.if_icmp .ne 5, 3) := by decide +kernel
theorem dX8_isBetterSet_5 : decode cX8_isBetterSet 5 = .ok (.iconst 1, 1) := by decide +kernel
theorem dX8_isBetterSet_6 : decode cX8_isBetterSet 6 = .ok (.ireturn, 1) := by decide +kernel
theorem dX8_isBetterSet_7 : decode cX8_isBetterSet 7 = .ok (.iload_n 0, 1) := by decide +kernel
theorem dX8_isBetterSet_8 : decode cX8_isBetterSet 8 = .ok (.invokestatic 314, 3) := by decide +kernel
theorem dX8_isBetterSet_11 : decode cX8_isBetterSet 11 = .ok (.istore_n 2, 1) := by decide +kernel
theorem dX8_isBetterSet_12 : decode cX8_isBetterSet 12 = .ok (.iload_n 1, 1) := by decide +kernel
theorem dX8_isBetterSet_13 : decode cX8_isBetterSet 13 = .ok (.invokestatic 314, 3) := by decide +kernel
theorem dX8_isBetterSet_16 : decode cX8_isBetterSet 16 = .ok (.istore_n 3, 1) := by decide +kernel
theorem dX8_isBetterSet_17 : decode cX8_isBetterSet 17 = .ok (.iload_n 2, 1) := by decide +kernel
theorem dX8_isBetterSet_18 : decode cX8_isBetterSet 18 = .ok (.iload_n 3, 1) := by decide +kernel
theorem dX8_isBetterSet_19 : decode cX8_isBetterSet 19 = .ok (.if_icmp .lt 13, 3) := by decide +kernel
theorem dX8_isBetterSet_22 : decode cX8_isBetterSet 22 = .ok (.iload_n 2, 1) := by decide +kernel
theorem dX8_isBetterSet_23 : decode cX8_isBetterSet 23 = .ok (.iload_n 3, 1) := by decide +kernel
theorem dX8_isBetterSet_24 : decode cX8_isBetterSet 24 = .ok (.if_icmp .ne 12, 3) := by decide +kernel
theorem dX8_isBetterSet_27 : decode cX8_isBetterSet 27 = .ok (.iload_n 0, 1) := by decide +kernel
theorem dX8_isBetterSet_28 : decode cX8_isBetterSet 28 = .ok (.iload_n 1, 1) := by decide +kernel
theorem dX8_isBetterSet_29 : decode cX8_isBetterSet 29 = .ok (.if_icmp .ge 7, 3) := by decide +kernel
theorem dX8_isBetterSet_32 : decode cX8_isBetterSet 32 = .ok (.iconst 1, 1) := by decide +kernel
theorem dX8_isBetterSet_33 : decode cX8_isBetterSet 33 = .ok (.goto 4, 3) := by decide +kernel
theorem dX8_isBetterSet_36 : decode cX8_isBetterSet 36 = .ok (.iconst 0, 1) := by decide +kernel
theorem dX8_isBetterSet_37 : decode cX8_isBetterSet 37 = .ok (.ireturn, 1) := by decide +kernel
theorem dX8_doorsToPass_0 : decode cX8_doorsToPass 0 = .ok (.aload_n 0, 1) := by decide +kernel
theorem dX8_doorsToPass_1 : decode cX8_doorsToPass 1 = .ok (.getfield 26, 3) := by decide +kernel
theorem dX8_doorsToPass_4 : decode cX8_doorsToPass 4 = .ok (.getfield 113, 3) := by decide +kernel
theorem dX8_doorsToPass_7 : decode cX8_doorsToPass 7 = .ok (.getfield 131, 3) := by decide +kernel
theorem dX8_doorsToPass_10 : decode cX8_doorsToPass 10 = .ok (.iconst 1, 1) := by decide +kernel
theorem dX8_doorsToPass_11 : decode cX8_doorsToPass 11 = .ok (.aload_n 0, 1) := by decide +kernel
theorem dX8_doorsToPass_12 : decode cX8_doorsToPass 12 = .ok (.getfield 26, 3) := by decide +kernel
theorem dX8_doorsToPass_15 : decode cX8_doorsToPass 15 = .ok (.getfield 113, 3) := by decide +kernel
theorem dX8_doorsToPass_18 : decode cX8_doorsToPass 18 = .ok (.getfield 122, 3) := by decide +kernel
theorem dX8_doorsToPass_21 : decode cX8_doorsToPass 21 = .ok (.ishl, 1) := by decide +kernel
theorem dX8_doorsToPass_22 : decode cX8_doorsToPass 22 = .ok (.iconst (-1), 1) := by decide +kernel
theorem dX8_doorsToPass_23 : decode cX8_doorsToPass 23 = .ok (.ixor, 1) := by decide +kernel
theorem dX8_doorsToPass_24 : decode cX8_doorsToPass 24 = .ok (.iand, 1) := by decide +kernel
theorem dX8_doorsToPass_25 : decode cX8_doorsToPass 25 = .ok (.istore_n 1, 1) := by decide +kernel
theorem dX8_doorsToPass_26 : decode cX8_doorsToPass 26 = .ok (.iconst 0, 1) := by decide +kernel
theorem dX8_doorsToPass_27 : decode cX8_doorsToPass 27 = .ok (.istore_n 2, 1) := by decide +kernel
theorem dX8_doorsToPass_28 : decode cX8_doorsToPass 28 = .ok (.iconst 0, 1) := by decide +kernel
theorem dX8_doorsToPass_29 : decode cX8_doorsToPass 29 = .ok (.istore_n 3, 1) := by decide +kernel
theorem dX8_doorsToPass_30 : decode cX8_doorsToPass 30 = .ok (.iload_n 3, 1) := by decide +kernel
theorem dX8_doorsToPass_31 : decode cX8_doorsToPass 31 = .ok (.aload_n 0, 1) := by decide +kernel
theorem dX8_doorsToPass_32 : decode cX8_doorsToPass 32 = .ok (.getfield 19, 3) := by decide +kernel
theorem dX8_doorsToPass_35 : decode cX8_doorsToPass 35 = .ok (.getfield 104, 3) := by decide +kernel
theorem dX8_doorsToPass_38 : decode cX8_doorsToPass 38 = .ok (.if_icmp .ge 61, 3) := by decide +kernel
theorem dX8_doorsToPass_41 : decode cX8_doorsToPass 41 = .ok (.iconst 1, 1) := by decide +kernel
theorem dX8_doorsToPass_42 : decode cX8_doorsToPass 42 = .ok (.aload_n 0, 1) := by decide +kernel
theorem dX8_doorsToPass_43 : decode cX8_doorsToPass 43 = .ok (.getfield 19, 3) := by decide +kernel
theorem dX8_doorsToPass_46 : decode cX8_doorsToPass 46 = .ok (.getfield 206, 3) := by decide +kernel
theorem dX8_doorsToPass_49 : decode cX8_doorsToPass 49 = .ok (.iload_n 3, 1) := by decide +kernel
theorem dX8_doorsToPass_50 : decode cX8_doorsToPass 50 = .ok (.iaload, 1) := by decide +kernel
theorem dX8_doorsToPass_51 : decode cX8_doorsToPass 51 = .ok (.ishl, 1) := by decide +kernel
theorem dX8_doorsToPass_52 : decode cX8_doorsToPass 52 = .ok (.iconst 1, 1) := by decide +kernel
theorem dX8_doorsToPass_53 : decode cX8_doorsToPass 53 = .ok (.aload_n 0, 1) := by decide +kernel
theorem dX8_doorsToPass_54 : decode cX8_doorsToPass 54 = .ok (.getfield 19, 3) := by decide +kernel
theorem dX8_doorsToPass_57 : decode cX8_doorsToPass 57 = .ok (.getfield 209, 3) := by decide +kernel
theorem dX8_doorsToPass_60 : decode cX8_doorsToPass 60 = .ok (.iload_n 3, 1) := by decide +kernel
theorem dX8_doorsToPass_61 : decode cX8_doorsToPass 61 = .ok (.iaload, 1) := by decide +kernel
theorem dX8_doorsToPass_62 : decode cX8_doorsToPass 62 = .ok (.ishl, 1) := by decide +kernel
theorem dX8_doorsToPass_63 : decode cX8_doorsToPass 63 = .ok (.ior, 1) := by decide +kernel
theorem dX8_doorsToPass_64 : decode cX8_doorsToPass 64 = .ok (.istore 4, 2) := by decide +kernel
theorem dX8_doorsToPass_66 : decode cX8_doorsToPass 66 = .ok (.aload_n 0, 1) := by decide +kernel
theorem dX8_doorsToPass_67 : decode cX8_doorsToPass 67 = .ok (.getfield 26, 3) := by decide +kernel
theorem dX8_doorsToPass_70 : decode cX8_doorsToPass 70 = .ok (.getfield 134, 3) := by decide +kernel
theorem dX8_doorsToPass_73 : decode cX8_doorsToPass 73 = .ok (.iload_n 3, 1) := by decide +kernel
theorem dX8_doorsToPass_74 : decode cX8_doorsToPass 74 = .ok (.invokestatic 173, 3) := by decide +kernel
theorem dX8_doorsToPass_77 : decode cX8_doorsToPass 77 = .ok (.ifCond .ne 16, 3) := by decide +kernel
theorem dX8_doorsToPass_80 : decode cX8_doorsToPass 80 = .ok (.iload 4, 2) := by decide +kernel
theorem dX8_doorsToPass_82 : decode cX8_doorsToPass 82 = .ok (.iload_n 1, 1) := by decide +kernel
theorem dX8_doorsToPass_83 : decode cX8_doorsToPass 83 = .ok (.iand, 1) := by decide +kernel
theorem dX8_doorsToPass_84 : decode cX8_doorsToPass 84 = .ok (.ifCond .ne 9, 3) := by decide +kernel
theorem dX8_doorsToPass_87 : decode cX8_doorsToPass 87 = .ok (.iload_n 2, 1) := by decide +kernel
theorem dX8_doorsToPass_88 : decode cX8_doorsToPass 88 = .ok (.iconst 1, 1) := by decide +kernel
theorem dX8_doorsToPass_89 : decode cX8_doorsToPass 89 = .ok (.iload_n 3, 1) := by decide +kernel
theorem dX8_doorsToPass_90 : decode cX8_doorsToPass 90 = .ok (.ishl, 1) := by decide +kernel
theorem dX8_doorsToPass_91 : decode cX8_doorsToPass 91 = .ok (.ior, 1) := by decide +kernel
theorem dX8_doorsToPass_92 : decode cX8_doorsToPass 92 = .ok (.istore_n 2, 1) := by decide +kernel
theorem dX8_doorsToPass_93 : decode cX8_doorsToPass 93 = .ok (.iinc 3 1, 3) := by decide +kernel
theorem dX8_doorsToPass_96 : decode cX8_doorsToPass 96 = .ok (.goto (-66), 3) := by decide +kernel
theorem dX8_doorsToPass_99 : decode cX8_doorsToPass 99 = .ok (.iload_n 2, 1) := by decide +kernel
theorem dX8_doorsToPass_100 : decode cX8_doorsToPass 100 = .ok (.ireturn, 1) := by decide +kernel
theorem dX8_spreadNoise_0 : decode cX8_spreadNoise 0 = .ok (.aload_n 0, 1) := by decide +kernel
theorem dX8_spreadNoise_1 : decode cX8_spreadNoise 1 = .ok (.getfield 26, 3) := by decide +kernel
theorem dX8_spreadNoise_4 : decode cX8_spreadNoise 4 = .ok (.getfield 113, 3) := by decide +kernel
theorem dX8_spreadNoise_7 : decode cX8_spreadNoise 7 = .ok (.getfield 170, 3) := by decide +kernel
theorem dX8_spreadNoise_10 : decode cX8_spreadNoise 10 = .ok (.iload_n 2, 1) := by decide +kernel
theorem dX8_spreadNoise_11 : decode cX8_spreadNoise 11 = .ok (.iaload, 1) := by decide +kernel
theorem dX8_spreadNoise_12 : decode cX8_spreadNoise 12 = .ok (.aload_n 0, 1) := by decide +kernel
theorem dX8_spreadNoise_13 : decode cX8_spreadNoise 13 = .ok (.getfield 26, 3) := by decide +kernel
theorem dX8_spreadNoise_16 : decode cX8_spreadNoise 16 = .ok (.getfield 113, 3) := by decide +kernel
theorem dX8_spreadNoise_19 : decode cX8_spreadNoise 19 = .ok (.getfield 131, 3) := by decide +kernel
theorem dX8_spreadNoise_22 : decode cX8_spreadNoise 22 = .ok (.iconst (-1), 1) := by decide +kernel
theorem dX8_spreadNoise_23 : decode cX8_spreadNoise 23 = .ok (.ixor, 1) := by decide +kernel
theorem dX8_spreadNoise_24 : decode cX8_spreadNoise 24 = .ok (.iand, 1) := by decide +kernel
theorem dX8_spreadNoise_25 : decode cX8_spreadNoise 25 = .ok (.istore_n 3, 1) := by decide +kernel
theorem dX8_spreadNoise_26 : decode cX8_spreadNoise 26 = .ok (.iconst 0, 1) := by decide +kernel
theorem dX8_spreadNoise_27 : decode cX8_spreadNoise 27 = .ok (.istore 4, 2) := by decide +kernel
theorem dX8_spreadNoise_29 : decode cX8_spreadNoise 29 = .ok (.iload 4, 2) := by decide +kernel
theorem dX8_spreadNoise_31 : decode cX8_spreadNoise 31 = .ok (.aload_n 0, 1) := by decide +kernel
theorem dX8_spreadNoise_32 : decode cX8_spreadNoise 32 = .ok (.getfield 19, 3) := by decide +kernel
theorem dX8_spreadNoise_35 : decode cX8_spreadNoise 35 = .ok (.getfield 98, 3) := by decide +kernel
theorem dX8_spreadNoise_38 : decode cX8_spreadNoise 38 = .ok (.if_icmp .ge 63, 3) := by decide +kernel
theorem dX8_spreadNoise_41 : decode cX8_spreadNoise 41 = .ok (.aload_n 1, 1) := by decide +kernel
theorem dX8_spreadNoise_42 : decode cX8_spreadNoise 42 = .ok (.iload_n 2, 1) := by decide +kernel
theorem dX8_spreadNoise_43 : decode cX8_spreadNoise 43 = .ok (.iaload, 1) := by decide +kernel
theorem dX8_spreadNoise_44 : decode cX8_spreadNoise 44 = .ok (.aload_n 0, 1) := by decide +kernel
theorem dX8_spreadNoise_45 : decode cX8_spreadNoise 45 = .ok (.getfield 26, 3) := by decide +kernel
theorem dX8_spreadNoise_48 : decode cX8_spreadNoise 48 = .ok (.getfield 113, 3) := by decide +kernel
theorem dX8_spreadNoise_51 : decode cX8_spreadNoise 51 = .ok (.getfield 156, 3) := by decide +kernel
theorem dX8_spreadNoise_54 : decode cX8_spreadNoise 54 = .ok (.iload 4, 2) := by decide +kernel
theorem dX8_spreadNoise_56 : decode cX8_spreadNoise 56 = .ok (.invokestatic 159, 3) := by decide +kernel
theorem dX8_spreadNoise_59 : decode cX8_spreadNoise 59 = .ok (.iadd, 1) := by decide +kernel
theorem dX8_spreadNoise_60 : decode cX8_spreadNoise 60 = .ok (.istore 5, 2) := by decide +kernel
theorem dX8_spreadNoise_62 : decode cX8_spreadNoise 62 = .ok (.iload_n 3, 1) := by decide +kernel
theorem dX8_spreadNoise_63 : decode cX8_spreadNoise 63 = .ok (.iload 4, 2) := by decide +kernel
theorem dX8_spreadNoise_65 : decode cX8_spreadNoise 65 = .ok (.invokestatic 173, 3) := by decide +kernel
theorem dX8_spreadNoise_68 : decode cX8_spreadNoise 68 = .ok (.iconst 1, 1) := by decide +kernel
theorem dX8_spreadNoise_69 : decode cX8_spreadNoise 69 = .ok (.if_icmp .ne 26, 3) := by decide +kernel
theorem dX8_spreadNoise_72 : decode cX8_spreadNoise 72 = .ok (.aload_n 1, 1) := by decide +kernel
theorem dX8_spreadNoise_73 : decode cX8_spreadNoise 73 = .ok (.iload 4, 2) := by decide +kernel
theorem dX8_spreadNoise_75 : decode cX8_spreadNoise 75 = .ok (.iaload, 1) := by decide +kernel
theorem dX8_spreadNoise_76 : decode cX8_spreadNoise 76 = .ok (.iconst (-1), 1) := by decide +kernel
theorem dX8_spreadNoise_77 : decode cX8_spreadNoise 77 = .ok (.if_icmp .eq 12, 3) := by decide +kernel
theorem dX8_spreadNoise_80 : decode cX8_spreadNoise 80 = .ok (.iload 5, 2) := by decide +kernel
theorem dX8_spreadNoise_82 : decode cX8_spreadNoise 82 = .ok (.aload_n 1, 1) := by decide +kernel
theorem dX8_spreadNoise_83 : decode cX8_spreadNoise 83 = .ok (.iload 4, 2) := by decide +kernel
theorem dX8_spreadNoise_85 : decode cX8_spreadNoise 85 = .ok (.iaload, 1) := by decide +kernel
theorem dX8_spreadNoise_86 : decode cX8_spreadNoise 86 = .ok (.if_icmp .ge 9, 3) := by decide +kernel
theorem dX8_spreadNoise_89 : decode cX8_spreadNoise 89 = .ok (.aload_n 1, 1) := by decide +kernel
theorem dX8_spreadNoise_90 : decode cX8_spreadNoise 90 = .ok (.iload 4, 2) := by decide +kernel
theorem dX8_spreadNoise_92 : decode cX8_spreadNoise 92 = .ok (.iload 5, 2) := by decide +kernel
theorem dX8_spreadNoise_94 : decode cX8_spreadNoise 94 = .ok (.iastore, 1) := by decide +kernel
theorem dX8_spreadNoise_95 : decode cX8_spreadNoise 95 = .ok (.iinc 4 1, 3) := by decide +kernel
theorem dX8_spreadNoise_98 : decode cX8_spreadNoise 98 = .ok (.goto (-69), 3) := by decide +kernel
theorem dX8_spreadNoise_101 : decode cX8_spreadNoise 101 = .ok (.return_, 1) := by decide +kernel
theorem dX8_worthToHear_0 : decode cX8_worthToHear 0 = .ok (.iconst 0, 1) := by decide +kernel
theorem dX8_worthToHear_1 : decode cX8_worthToHear 1 = .ok (.istore_n 2, 1) := by decide +kernel
theorem dX8_worthToHear_2 : decode cX8_worthToHear 2 = .ok (.iconst 0, 1) := by decide +kernel
theorem dX8_worthToHear_3 : decode cX8_worthToHear 3 = .ok (.istore_n 3, 1) := by decide +kernel
theorem dX8_worthToHear_4 : decode cX8_worthToHear 4 = .ok (.iload_n 3, 1) := by decide +kernel
theorem dX8_worthToHear_5 : decode cX8_worthToHear 5 = .ok (.aload_n 0, 1) := by decide +kernel
theorem dX8_worthToHear_6 : decode cX8_worthToHear 6 = .ok (.getfield 19, 3) := by decide +kernel
theorem dX8_worthToHear_9 : decode cX8_worthToHear 9 = .ok (.getfield 107, 3) := by decide +kernel
theorem dX8_worthToHear_12 : decode cX8_worthToHear 12 = .ok (.if_icmp .ge 52, 3) := by decide +kernel
theorem dX8_worthToHear_15 : decode cX8_worthToHear 15 = .ok (.aload_n 0, 1) := by decide +kernel
theorem dX8_worthToHear_16 : decode cX8_worthToHear 16 = .ok (.getfield 26, 3) := by decide +kernel
theorem dX8_worthToHear_19 : decode cX8_worthToHear 19 = .ok (.getfield 137, 3) := by decide +kernel
theorem dX8_worthToHear_22 : decode cX8_worthToHear 22 = .ok (.iload_n 3, 1) := by decide +kernel
theorem dX8_worthToHear_23 : decode cX8_worthToHear 23 = .ok (.invokestatic 173, 3) := by decide +kernel
theorem dX8_worthToHear_26 : decode cX8_worthToHear 26 = .ok (.ifCond .ne 32, 3) := by decide +kernel
theorem dX8_worthToHear_29 : decode cX8_worthToHear 29 = .ok (.iload_n 1, 1) := by decide +kernel
theorem dX8_worthToHear_30 : decode cX8_worthToHear 30 = .ok (.aload_n 0, 1) := by decide +kernel
theorem dX8_worthToHear_31 : decode cX8_worthToHear 31 = .ok (.getfield 26, 3) := by decide +kernel
theorem dX8_worthToHear_34 : decode cX8_worthToHear 34 = .ok (.getfield 179, 3) := by decide +kernel
theorem dX8_worthToHear_37 : decode cX8_worthToHear 37 = .ok (.iload_n 3, 1) := by decide +kernel
theorem dX8_worthToHear_38 : decode cX8_worthToHear 38 = .ok (.iaload, 1) := by decide +kernel
theorem dX8_worthToHear_39 : decode cX8_worthToHear 39 = .ok (.invokestatic 173, 3) := by decide +kernel
theorem dX8_worthToHear_42 : decode cX8_worthToHear 42 = .ok (.iconst 1, 1) := by decide +kernel
theorem dX8_worthToHear_43 : decode cX8_worthToHear 43 = .ok (.if_icmp .ne 15, 3) := by decide +kernel
theorem dX8_worthToHear_46 : decode cX8_worthToHear 46 = .ok (.iload_n 2, 1) := by decide +kernel
theorem dX8_worthToHear_47 : decode cX8_worthToHear 47 = .ok (.aload_n 0, 1) := by decide +kernel
theorem dX8_worthToHear_48 : decode cX8_worthToHear 48 = .ok (.getfield 19, 3) := by decide +kernel
theorem dX8_worthToHear_51 : decode cX8_worthToHear 51 = .ok (.getfield 182, 3) := by decide +kernel
theorem dX8_worthToHear_54 : decode cX8_worthToHear 54 = .ok (.iload_n 3, 1) := by decide +kernel
theorem dX8_worthToHear_55 : decode cX8_worthToHear 55 = .ok (.iaload, 1) := by decide +kernel
theorem dX8_worthToHear_56 : decode cX8_worthToHear 56 = .ok (.iadd, 1) := by decide +kernel
theorem dX8_worthToHear_57 : decode cX8_worthToHear 57 = .ok (.istore_n 2, 1) := by decide +kernel
theorem dX8_worthToHear_58 : decode cX8_worthToHear 58 = .ok (.iinc 3 1, 3) := by decide +kernel
theorem dX8_worthToHear_61 : decode cX8_worthToHear 61 = .ok (.goto (-57), 3) := by decide +kernel
theorem dX8_worthToHear_64 : decode cX8_worthToHear 64 = .ok (.iload_n 2, 1) := by decide +kernel
theorem dX8_worthToHear_65 : decode cX8_worthToHear 65 = .ok (.ireturn, 1) := by decide +kernel
theorem dX8_greatestPart_0 : decode cX8_greatestPart 0 = .ok (.aload_n 0, 1) := by decide +kernel
theorem dX8_greatestPart_1 : decode cX8_greatestPart 1 = .ok (.getfield 60, 3) := by decide +kernel
theorem dX8_greatestPart_4 : decode cX8_greatestPart 4 = .ok (.astore_n 3, 1) := by decide +kernel
theorem dX8_greatestPart_5 : decode cX8_greatestPart 5 = .ok (.aload_n 3, 1) := by decide +kernel
theorem dX8_greatestPart_6 : decode cX8_greatestPart 6 = .ok (.iconst 0, 1) := by decide +kernel
theorem dX8_greatestPart_7 : decode cX8_greatestPart 7 = .ok (.invokestatic 247, 3) := by decide +kernel
theorem dX8_greatestPart_10 : decode cX8_greatestPart 10 = .ok (.iconst 0, 1) := by decide +kernel
theorem dX8_greatestPart_11 : decode cX8_greatestPart 11 = .ok (.istore 4, 2) := by decide +kernel
theorem dX8_greatestPart_13 : decode cX8_greatestPart 13 = .ok (.iconst 0, 1) := by decide +kernel
theorem dX8_greatestPart_14 : decode cX8_greatestPart 14 = .ok (.istore 5, 2) := by decide +kernel
theorem dX8_greatestPart_16 : decode cX8_greatestPart 16 = .ok (.iload 5, 2) := by decide +kernel
theorem dX8_greatestPart_18 : decode cX8_greatestPart 18 = .ok (.bipush 64, 2) := by decide +kernel
theorem dX8_greatestPart_20 : decode cX8_greatestPart 20 = .ok (.if_icmp .ge 50, 3) := by decide +kernel
theorem dX8_greatestPart_23 : decode cX8_greatestPart 23 = .ok (.lload_n 1, 1) := by decide +kernel
theorem dX8_greatestPart_24 : decode cX8_greatestPart 24 = .ok (.iload 5, 2) := by decide +kernel
theorem dX8_greatestPart_26 : decode cX8_greatestPart 26 = .ok (.lushr, 1) := by decide +kernel
theorem dX8_greatestPart_27 : decode cX8_greatestPart 27 = .ok (.lconst 1, 1) := by decide +kernel
theorem dX8_greatestPart_28 : decode cX8_greatestPart 28 = .ok (.land, 1) := by decide +kernel
theorem dX8_greatestPart_29 : decode cX8_greatestPart 29 = .ok (.lconst 1, 1) := by decide +kernel
theorem dX8_greatestPart_30 : decode cX8_greatestPart 30 = .ok (.lcmp, 1) := by decide +kernel
theorem dX8_greatestPart_31 : decode cX8_greatestPart 31 = .ok (.ifCond .ne 33, 3) := by decide +kernel
theorem dX8_greatestPart_34 : decode cX8_greatestPart 34 = .ok (.aload_n 0, 1) := by decide +kernel
theorem dX8_greatestPart_35 : decode cX8_greatestPart 35 = .ok (.getfield 53, 3) := by decide +kernel
theorem dX8_greatestPart_38 : decode cX8_greatestPart 38 = .ok (.iload 5, 2) := by decide +kernel
theorem dX8_greatestPart_40 : decode cX8_greatestPart 40 = .ok (.invokevirtual 318, 3) := by decide +kernel
theorem dX8_greatestPart_43 : decode cX8_greatestPart 43 = .ok (.istore 6, 2) := by decide +kernel
theorem dX8_greatestPart_45 : decode cX8_greatestPart 45 = .ok (.aload_n 3, 1) := by decide +kernel
theorem dX8_greatestPart_46 : decode cX8_greatestPart 46 = .ok (.iload 6, 2) := by decide +kernel
theorem dX8_greatestPart_48 : decode cX8_greatestPart 48 = .ok (.dup2, 1) := by decide +kernel
theorem dX8_greatestPart_49 : decode cX8_greatestPart 49 = .ok (.iaload, 1) := by decide +kernel
theorem dX8_greatestPart_50 : decode cX8_greatestPart 50 = .ok (.iconst 1, 1) := by decide +kernel
theorem dX8_greatestPart_51 : decode cX8_greatestPart 51 = .ok (.iadd, 1) := by decide +kernel
theorem dX8_greatestPart_52 : decode cX8_greatestPart 52 = .ok (.iastore, 1) := by decide +kernel
theorem dX8_greatestPart_53 : decode cX8_greatestPart 53 = .ok (.iload 4, 2) := by decide +kernel
theorem dX8_greatestPart_55 : decode cX8_greatestPart 55 = .ok (.aload_n 3, 1) := by decide +kernel
theorem dX8_greatestPart_56 : decode cX8_greatestPart 56 = .ok (.iload 6, 2) := by decide +kernel
theorem dX8_greatestPart_58 : decode cX8_greatestPart 58 = .ok (.iaload, 1) := by decide +kernel
theorem dX8_greatestPart_59 : decode cX8_greatestPart 59 = .ok (.invokestatic 321, 3) := by decide +kernel
theorem dX8_greatestPart_62 : decode cX8_greatestPart 62 = .ok (.istore 4, 2) := by decide +kernel
theorem dX8_greatestPart_64 : decode cX8_greatestPart 64 = .ok (.iinc 5 1, 3) := by decide +kernel
theorem dX8_greatestPart_67 : decode cX8_greatestPart 67 = .ok (.goto (-51), 3) := by decide +kernel
theorem dX8_greatestPart_70 : decode cX8_greatestPart 70 = .ok (.iload 4, 2) := by decide +kernel
theorem dX8_greatestPart_72 : decode cX8_greatestPart 72 = .ok (.ireturn, 1) := by decide +kernel
theorem dX8_isOfRooms_0 : decode cX8_isOfRooms 0 = .ok (.iload_n 1, 1) := by decide +kernel
theorem dX8_isOfRooms_1 : decode cX8_isOfRooms 1 = .ok (.istore_n 2, 1) := by decide +kernel
theorem dX8_isOfRooms_2 : decode cX8_isOfRooms 2 = .ok (.iload_n 2, 1) := by decide +kernel
theorem dX8_isOfRooms_3 : decode cX8_isOfRooms 3 = .ok (.ifCond .le 33, 3) := by decide +kernel
theorem dX8_isOfRooms_6 : decode cX8_isOfRooms 6 = .ok (.iload_n 2, 1) := by decide +kernel
theorem dX8_isOfRooms_7 : decode cX8_isOfRooms 7 = .ok (.bipush 10, 2) := by decide +kernel
theorem dX8_isOfRooms_9 : decode cX8_isOfRooms 9 = .ok (.irem, 1) := by decide +kernel
theorem dX8_isOfRooms_10 : decode cX8_isOfRooms 10 = .ok (.istore_n 3, 1) := by decide +kernel
theorem dX8_isOfRooms_11 : decode cX8_isOfRooms 11 = .ok (.iload_n 3, 1) := by decide +kernel
theorem dX8_isOfRooms_12 : decode cX8_isOfRooms 12 = .ok (.ifCond .eq 14, 3) := by decide +kernel
theorem dX8_isOfRooms_15 : decode cX8_isOfRooms 15 = .ok (.iload_n 3, 1) := by decide +kernel
theorem dX8_isOfRooms_16 : decode cX8_isOfRooms 16 = .ok (.aload_n 0, 1) := by decide +kernel
theorem dX8_isOfRooms_17 : decode cX8_isOfRooms 17 = .ok (.getfield 19, 3) := by decide +kernel
theorem dX8_isOfRooms_20 : decode cX8_isOfRooms 20 = .ok (.getfield 98, 3) := by decide +kernel
theorem dX8_isOfRooms_23 : decode cX8_isOfRooms 23 = .ok (.if_icmp .le 5, 3) := by decide +kernel
theorem dX8_isOfRooms_26 : decode cX8_isOfRooms 26 = .ok (.iconst 0, 1) := by decide +kernel
theorem dX8_isOfRooms_27 : decode cX8_isOfRooms 27 = .ok (.ireturn, 1) := by decide +kernel
theorem dX8_isOfRooms_28 : decode cX8_isOfRooms 28 = .ok (.iload_n 2, 1) := by decide +kernel
theorem dX8_isOfRooms_29 : decode cX8_isOfRooms 29 = .ok (.bipush 10, 2) := by decide +kernel
theorem dX8_isOfRooms_31 : decode cX8_isOfRooms 31 = .ok (.idiv, 1) := by decide +kernel
theorem dX8_isOfRooms_32 : decode cX8_isOfRooms 32 = .ok (.istore_n 2, 1) := by decide +kernel
theorem dX8_isOfRooms_33 : decode cX8_isOfRooms 33 = .ok (.goto (-31), 3) := by decide +kernel
theorem dX8_isOfRooms_36 : decode cX8_isOfRooms 36 = .ok (.iconst 1, 1) := by decide +kernel
theorem dX8_isOfRooms_37 : decode cX8_isOfRooms 37 = .ok (.ireturn, 1) := by decide +kernel
theorem dX8_goesSo_0 : decode cX8_goesSo 0 = .ok (.aload_n 0, 1) := by decide +kernel
theorem dX8_goesSo_1 : decode cX8_goesSo 1 = .ok (.getfield 53, 3) := by decide +kernel
theorem dX8_goesSo_4 : decode cX8_goesSo 4 = .ok (.aload_n 0, 1) := by decide +kernel
theorem dX8_goesSo_5 : decode cX8_goesSo 5 = .ok (.getfield 26, 3) := by decide +kernel
theorem dX8_goesSo_8 : decode cX8_goesSo 8 = .ok (.getfield 113, 3) := by decide +kernel
theorem dX8_goesSo_11 : decode cX8_goesSo 11 = .ok (.invokevirtual 226, 3) := by decide +kernel
theorem dX8_goesSo_14 : decode cX8_goesSo 14 = .ok (.aload_n 0, 1) := by decide +kernel
theorem dX8_goesSo_15 : decode cX8_goesSo 15 = .ok (.getfield 53, 3) := by decide +kernel
theorem dX8_goesSo_18 : decode cX8_goesSo 18 = .ok (.iload_n 1, 1) := by decide +kernel
theorem dX8_goesSo_19 : decode cX8_goesSo 19 = .ok (.putfield 116, 3) := by decide +kernel
theorem dX8_goesSo_22 : decode cX8_goesSo 22 = .ok (.ldc_w 326, 3) := by decide +kernel
theorem dX8_goesSo_25 : decode cX8_goesSo 25 = .ok (.istore_n 3, 1) := by decide +kernel
theorem dX8_goesSo_26 : decode cX8_goesSo 26 = .ok (.iload_n 3, 1) := by decide +kernel
theorem dX8_goesSo_27 : decode cX8_goesSo 27 = .ok (.ifCond .le 47, 3) := by decide +kernel
theorem dX8_goesSo_30 : decode cX8_goesSo 30 = .ok (.iload_n 2, 1) := by decide +kernel
theorem dX8_goesSo_31 : decode cX8_goesSo 31 = .ok (.iload_n 3, 1) := by decide +kernel
theorem dX8_goesSo_32 : decode cX8_goesSo 32 = .ok (.idiv, 1) := by decide +kernel
theorem dX8_goesSo_33 : decode cX8_goesSo 33 = .ok (.istore 4, 2) := by decide +kernel
theorem dX8_goesSo_35 : decode cX8_goesSo 35 = .ok (.iload 4, 2) := by decide +kernel
theorem dX8_goesSo_37 : decode cX8_goesSo 37 = .ok (.ifCond .le 29, 3) := by decide +kernel
theorem dX8_goesSo_40 : decode cX8_goesSo 40 = .ok (.aload_n 0, 1) := by decide +kernel
theorem dX8_goesSo_41 : decode cX8_goesSo 41 = .ok (.getfield 53, 3) := by decide +kernel
theorem dX8_goesSo_44 : decode cX8_goesSo 44 = .ok (.invokevirtual 230, 3) := by decide +kernel
theorem dX8_goesSo_47 : decode cX8_goesSo 47 = .ok (.aload_n 0, 1) := by decide +kernel
theorem dX8_goesSo_48 : decode cX8_goesSo 48 = .ok (.getfield 53, 3) := by decide +kernel
theorem dX8_goesSo_51 : decode cX8_goesSo 51 = .ok (.getfield 122, 3) := by decide +kernel
theorem dX8_goesSo_54 : decode cX8_goesSo 54 = .ok (.iconst 1, 1) := by decide +kernel
theorem dX8_goesSo_55 : decode cX8_goesSo 55 = .ok (.iadd, 1) := by decide +kernel
theorem dX8_goesSo_56 : decode cX8_goesSo 56 = .ok (.iload 4, 2) := by decide +kernel
theorem dX8_goesSo_58 : decode cX8_goesSo 58 = .ok (.bipush 10, 2) := by decide +kernel
theorem dX8_goesSo_60 : decode cX8_goesSo 60 = .ok (.irem, 1) := by decide +kernel
theorem dX8_goesSo_61 : decode cX8_goesSo 61 = .ok (.if_icmp .eq 5, 3) := by decide +kernel
theorem dX8_goesSo_64 : decode cX8_goesSo 64 = .ok (.iconst 0, 1) := by decide +kernel
theorem dX8_goesSo_65 : decode cX8_goesSo 65 = .ok (.ireturn, 1) := by decide +kernel
theorem dX8_goesSo_66 : decode cX8_goesSo 66 = .ok (.iload_n 3, 1) := by decide +kernel
theorem dX8_goesSo_67 : decode cX8_goesSo 67 = .ok (.bipush 10, 2) := by decide +kernel
theorem dX8_goesSo_69 : decode cX8_goesSo 69 = .ok (.idiv, 1) := by decide +kernel
theorem dX8_goesSo_70 : decode cX8_goesSo 70 = .ok (.istore_n 3, 1) := by decide +kernel
theorem dX8_goesSo_71 : decode cX8_goesSo 71 = .ok (.goto (-45), 3) := by decide +kernel
theorem dX8_goesSo_74 : decode cX8_goesSo 74 = .ok (.iconst 1, 1) := by decide +kernel
theorem dX8_goesSo_75 : decode cX8_goesSo 75 = .ok (.ireturn, 1) := by decide +kernel
theorem dX8_apart_0 : decode cX8_apart 0 = .ok (.iload_n 0, 1) := by decide +kernel
theorem dX8_apart_1 : decode cX8_apart 1 = .ok (.invokestatic 327, 3) := by decide +kernel
theorem dX8_apart_4 : decode cX8_apart 4 = .ok (.iload_n 1, 1) := by decide +kernel
theorem dX8_apart_5 : decode cX8_apart 5 = .ok (.invokestatic 327, 3) := by decide +kernel
theorem dX8_apart_8 : decode cX8_apart 8 = .ok (.isub, 1) := by decide +kernel
theorem dX8_apart_9 : decode cX8_apart 9 = .ok (.invokestatic 330, 3) := by decide +kernel
theorem dX8_apart_12 : decode cX8_apart 12 = .ok (.iload_n 0, 1) := by decide +kernel
theorem dX8_apart_13 : decode cX8_apart 13 = .ok (.invokestatic 333, 3) := by decide +kernel
theorem dX8_apart_16 : decode cX8_apart 16 = .ok (.iload_n 1, 1) := by decide +kernel
theorem dX8_apart_17 : decode cX8_apart 17 = .ok (.invokestatic 333, 3) := by decide +kernel
theorem dX8_apart_20 : decode cX8_apart 20 = .ok (.isub, 1) := by decide +kernel
theorem dX8_apart_21 : decode cX8_apart 21 = .ok (.invokestatic 330, 3) := by decide +kernel
theorem dX8_apart_24 : decode cX8_apart 24 = .ok (.iadd, 1) := by decide +kernel
theorem dX8_apart_25 : decode cX8_apart 25 = .ok (.iload_n 0, 1) := by decide +kernel
theorem dX8_apart_26 : decode cX8_apart 26 = .ok (.invokestatic 336, 3) := by decide +kernel
theorem dX8_apart_29 : decode cX8_apart 29 = .ok (.iload_n 1, 1) := by decide +kernel
theorem dX8_apart_30 : decode cX8_apart 30 = .ok (.invokestatic 336, 3) := by decide +kernel
theorem dX8_apart_33 : decode cX8_apart 33 = .ok (.isub, 1) := by decide +kernel
theorem dX8_apart_34 : decode cX8_apart 34 = .ok (.invokestatic 330, 3) := by decide +kernel
theorem dX8_apart_37 : decode cX8_apart 37 = .ok (.iadd, 1) := by decide +kernel
theorem dX8_apart_38 : decode cX8_apart 38 = .ok (.ireturn, 1) := by decide +kernel
theorem dX8_quietOf_0 : decode cX8_quietOf 0 = .ok (.iload_n 0, 1) := by decide +kernel
theorem dX8_quietOf_1 : decode cX8_quietOf 1 = .ok (.bipush 16, 2) := by decide +kernel
theorem dX8_quietOf_3 : decode cX8_quietOf 3 = .ok (.idiv, 1) := by decide +kernel
theorem dX8_quietOf_4 : decode cX8_quietOf 4 = .ok (.ireturn, 1) := by decide +kernel
theorem dX8_softOf_0 : decode cX8_softOf 0 = .ok (.iload_n 0, 1) := by decide +kernel
theorem dX8_softOf_1 : decode cX8_softOf 1 = .ok (.iconst 4, 1) := by decide +kernel
theorem dX8_softOf_2 : decode cX8_softOf 2 = .ok (.idiv, 1) := by decide +kernel
theorem dX8_softOf_3 : decode cX8_softOf 3 = .ok (.iconst 4, 1) := by decide +kernel
theorem dX8_softOf_4 : decode cX8_softOf 4 = .ok (.irem, 1) := by decide +kernel
theorem dX8_softOf_5 : decode cX8_softOf 5 = .ok (.ireturn, 1) := by decide +kernel
theorem dX8_newOf_0 : decode cX8_newOf 0 = .ok (.iload_n 0, 1) := by decide +kernel
theorem dX8_newOf_1 : decode cX8_newOf 1 = .ok (.iconst 4, 1) := by decide +kernel
theorem dX8_newOf_2 : decode cX8_newOf 2 = .ok (.irem, 1) := by decide +kernel
theorem dX8_newOf_3 : decode cX8_newOf 3 = .ok (.ireturn, 1) := by decide +kernel
theorem dX8_bit_0 : decode cX8_bit 0 = .ok (.iload_n 0, 1) := by decide +kernel
theorem dX8_bit_1 : decode cX8_bit 1 = .ok (.iload_n 1, 1) := by decide +kernel
theorem dX8_bit_2 : decode cX8_bit 2 = .ok (.ishr, 1) := by decide +kernel
theorem dX8_bit_3 : decode cX8_bit 3 = .ok (.iconst 1, 1) := by decide +kernel
theorem dX8_bit_4 : decode cX8_bit 4 = .ok (.iand, 1) := by decide +kernel
theorem dX8_bit_5 : decode cX8_bit 5 = .ok (.ireturn, 1) := by decide +kernel
theorem dX8_withBit_0 : decode cX8_withBit 0 = .ok (.iload_n 2, 1) := by decide +kernel
theorem dX8_withBit_1 : decode cX8_withBit 1 = .ok (.ifCond .eq 11, 3) := by decide +kernel
theorem dX8_withBit_4 : decode cX8_withBit 4 = .ok (.iload_n 0, 1) := by decide +kernel
theorem dX8_withBit_5 : decode cX8_withBit 5 = .ok (.iconst 1, 1) := by decide +kernel
theorem dX8_withBit_6 : decode cX8_withBit 6 = .ok (.iload_n 1, 1) := by decide +kernel
theorem dX8_withBit_7 : decode cX8_withBit 7 = .ok (.ishl, 1) := by decide +kernel
theorem dX8_withBit_8 : decode cX8_withBit 8 = .ok (.ior, 1) := by decide +kernel
theorem dX8_withBit_9 : decode cX8_withBit 9 = .ok (.goto 10, 3) := by decide +kernel
theorem dX8_withBit_12 : decode cX8_withBit 12 = .ok (.iload_n 0, 1) := by decide +kernel
theorem dX8_withBit_13 : decode cX8_withBit 13 = .ok (.iconst 1, 1) := by decide +kernel
theorem dX8_withBit_14 : decode cX8_withBit 14 = .ok (.iload_n 1, 1) := by decide +kernel
theorem dX8_withBit_15 : decode cX8_withBit 15 = .ok (.ishl, 1) := by decide +kernel
theorem dX8_withBit_16 : decode cX8_withBit 16 = .ok (.iconst (-1), 1) := by decide +kernel
theorem dX8_withBit_17 : decode cX8_withBit 17 = .ok (.ixor, 1) := by decide +kernel
theorem dX8_withBit_18 : decode cX8_withBit 18 = .ok (.iand, 1) := by decide +kernel
theorem dX8_withBit_19 : decode cX8_withBit 19 = .ok (.ireturn, 1) := by decide +kernel
theorem dX8_packedAt_0 : decode cX8_packedAt 0 = .ok (.iload_n 0, 1) := by decide +kernel
theorem dX8_packedAt_1 : decode cX8_packedAt 1 = .ok (.iconst 4, 1) := by decide +kernel
theorem dX8_packedAt_2 : decode cX8_packedAt 2 = .ok (.iload_n 1, 1) := by decide +kernel
theorem dX8_packedAt_3 : decode cX8_packedAt 3 = .ok (.imul, 1) := by decide +kernel
theorem dX8_packedAt_4 : decode cX8_packedAt 4 = .ok (.iushr, 1) := by decide +kernel
theorem dX8_packedAt_5 : decode cX8_packedAt 5 = .ok (.bipush 15, 2) := by decide +kernel
theorem dX8_packedAt_7 : decode cX8_packedAt 7 = .ok (.iand, 1) := by decide +kernel
theorem dX8_packedAt_8 : decode cX8_packedAt 8 = .ok (.ireturn, 1) := by decide +kernel
theorem dX8_withPacked_0 : decode cX8_withPacked 0 = .ok (.iload_n 0, 1) := by decide +kernel
theorem dX8_withPacked_1 : decode cX8_withPacked 1 = .ok (.bipush 15, 2) := by decide +kernel
theorem dX8_withPacked_3 : decode cX8_withPacked 3 = .ok (.iconst 4, 1) := by decide +kernel
theorem dX8_withPacked_4 : decode cX8_withPacked 4 = .ok (.iload_n 1, 1) := by decide +kernel
theorem dX8_withPacked_5 : decode cX8_withPacked 5 = .ok (.imul, 1) := by decide +kernel
theorem dX8_withPacked_6 : decode cX8_withPacked 6 = .ok (.ishl, 1) := by decide +kernel
theorem dX8_withPacked_7 : decode cX8_withPacked 7 = .ok (.iconst (-1), 1) := by decide +kernel
theorem dX8_withPacked_8 : decode cX8_withPacked 8 = .ok (.ixor, 1) := by decide +kernel
theorem dX8_withPacked_9 : decode cX8_withPacked 9 = .ok (.iand, 1) := by decide +kernel
theorem dX8_withPacked_10 : decode cX8_withPacked 10 = .ok (.iload_n 2, 1) := by decide +kernel
theorem dX8_withPacked_11 : decode cX8_withPacked 11 = .ok (.iconst 4, 1) := by decide +kernel
theorem dX8_withPacked_12 : decode cX8_withPacked 12 = .ok (.iload_n 1, 1) := by decide +kernel
theorem dX8_withPacked_13 : decode cX8_withPacked 13 = .ok (.imul, 1) := by decide +kernel
theorem dX8_withPacked_14 : decode cX8_withPacked 14 = .ok (.ishl, 1) := by decide +kernel
theorem dX8_withPacked_15 : decode cX8_withPacked 15 = .ok (.ior, 1) := by decide +kernel
theorem dX8_withPacked_16 : decode cX8_withPacked 16 = .ok (.ireturn, 1) := by decide +kernel
theorem dX9_in_0 : decode cX9_in 0 = .ok (.lload_n 0, 1) := by decide +kernel
theorem dX9_in_1 : decode cX9_in 1 = .ok (.lload_n 2, 1) := by decide +kernel
theorem dX9_in_2 : decode cX9_in 2 = .ok (.lcmp, 1) := by decide +kernel
theorem dX9_in_3 : decode cX9_in 3 = .ok (.ifCond .lt 14, 3) := by decide +kernel
theorem dX9_in_6 : decode cX9_in 6 = .ok (.lload_n 0, 1) := by decide +kernel
theorem dX9_in_7 : decode cX9_in 7 = .ok (.lload 4, 2) := by decide +kernel
theorem dX9_in_9 : decode cX9_in 9 = .ok (.lcmp, 1) := by decide +kernel
theorem dX9_in_10 : decode cX9_in 10 = .ok (.ifCond .gt 7, 3) := by decide +kernel
theorem dX9_in_13 : decode cX9_in 13 = .ok (.iconst 1, 1) := by decide +kernel
theorem dX9_in_14 : decode cX9_in 14 = .ok (.goto 4, 3) := by decide +kernel
theorem dX9_in_17 : decode cX9_in 17 = .ok (.iconst 0, 1) := by decide +kernel
theorem dX9_in_18 : decode cX9_in 18 = .ok (.ireturn, 1) := by decide +kernel
theorem dX9_init_0 : decode cX9_init 0 = .ok (.aload_n 0, 1) := by decide +kernel
theorem dX9_init_1 : decode cX9_init 1 = .ok (.invokespecial 1, 3) := by decide +kernel
theorem dX9_init_4 : decode cX9_init 4 = .ok (.aload_n 0, 1) := by decide +kernel
theorem dX9_init_5 : decode cX9_init 5 = .ok (.bipush 12, 2) := by decide +kernel
theorem dX9_init_7 : decode cX9_init 7 = .ok (.newarray .int, 2) := by decide +kernel
theorem dX9_init_9 : decode cX9_init 9 = .ok (.putfield 7, 3) := by decide +kernel
theorem dX9_init_12 : decode cX9_init 12 = .ok (.aload_n 0, 1) := by decide +kernel
theorem dX9_init_13 : decode cX9_init 13 = .ok (.bipush 12, 2) := by decide +kernel
theorem dX9_init_15 : decode cX9_init 15 = .ok (.newarray .int, 2) := by decide +kernel
theorem dX9_init_17 : decode cX9_init 17 = .ok (.putfield 13, 3) := by decide +kernel
theorem dX9_init_20 : decode cX9_init 20 = .ok (.aload_n 0, 1) := by decide +kernel
theorem dX9_init_21 : decode cX9_init 21 = .ok (.bipush 6, 2) := by decide +kernel
theorem dX9_init_23 : decode cX9_init 23 = .ok (.newarray .int, 2) := by decide +kernel
theorem dX9_init_25 : decode cX9_init 25 = .ok (.putfield 16, 3) := by decide +kernel
theorem dX9_init_28 : decode cX9_init 28 = .ok (.aload_n 0, 1) := by decide +kernel
theorem dX9_init_29 : decode cX9_init 29 = .ok (.bipush 80, 2) := by decide +kernel
theorem dX9_init_31 : decode cX9_init 31 = .ok (.newarray .long, 2) := by decide +kernel
theorem dX9_init_33 : decode cX9_init 33 = .ok (.putfield 19, 3) := by decide +kernel
theorem dX9_init_36 : decode cX9_init 36 = .ok (.aload_n 0, 1) := by decide +kernel
theorem dX9_init_37 : decode cX9_init 37 = .ok (.sipush 240, 3) := by decide +kernel
theorem dX9_init_40 : decode cX9_init 40 = .ok (.newarray .int, 2) := by decide +kernel
theorem dX9_init_42 : decode cX9_init 42 = .ok (.putfield 23, 3) := by decide +kernel
theorem dX9_init_45 : decode cX9_init 45 = .ok (.aload_n 0, 1) := by decide +kernel
theorem dX9_init_46 : decode cX9_init 46 = .ok (.bipush 56, 2) := by decide +kernel
theorem dX9_init_48 : decode cX9_init 48 = .ok (.newarray .int, 2) := by decide +kernel
theorem dX9_init_50 : decode cX9_init 50 = .ok (.putfield 26, 3) := by decide +kernel
theorem dX9_init_53 : decode cX9_init 53 = .ok (.aload_n 0, 1) := by decide +kernel
theorem dX9_init_54 : decode cX9_init 54 = .ok (.sipush 1280, 3) := by decide +kernel
theorem dX9_init_57 : decode cX9_init 57 = .ok (.newarray .long, 2) := by decide +kernel
theorem dX9_init_59 : decode cX9_init 59 = .ok (.putfield 29, 3) := by decide +kernel
theorem dX9_init_62 : decode cX9_init 62 = .ok (.aload_n 0, 1) := by decide +kernel
theorem dX9_init_63 : decode cX9_init 63 = .ok (.bipush 80, 2) := by decide +kernel
theorem dX9_init_65 : decode cX9_init 65 = .ok (.newarray .long, 2) := by decide +kernel
theorem dX9_init_67 : decode cX9_init 67 = .ok (.putfield 32, 3) := by decide +kernel
theorem dX9_init_70 : decode cX9_init 70 = .ok (.aload_n 0, 1) := by decide +kernel
theorem dX9_init_71 : decode cX9_init 71 = .ok (.bipush 8, 2) := by decide +kernel
theorem dX9_init_73 : decode cX9_init 73 = .ok (.newarray .int, 2) := by decide +kernel
theorem dX9_init_75 : decode cX9_init 75 = .ok (.putfield 35, 3) := by decide +kernel
theorem dX9_init_78 : decode cX9_init 78 = .ok (.aload_n 0, 1) := by decide +kernel
theorem dX9_init_79 : decode cX9_init 79 = .ok (.bipush 64, 2) := by decide +kernel
theorem dX9_init_81 : decode cX9_init 81 = .ok (.newarray .boolean, 2) := by decide +kernel
theorem dX9_init_83 : decode cX9_init 83 = .ok (.putfield 38, 3) := by decide +kernel
theorem dX9_init_86 : decode cX9_init 86 = .ok (.aload_n 0, 1) := by decide +kernel
theorem dX9_init_87 : decode cX9_init 87 = .ok (.bipush 8, 2) := by decide +kernel
theorem dX9_init_89 : decode cX9_init 89 = .ok (.newarray .int, 2) := by decide +kernel
theorem dX9_init_91 : decode cX9_init 91 = .ok (.putfield 42, 3) := by decide +kernel
theorem dX9_init_94 : decode cX9_init 94 = .ok (.aload_n 0, 1) := by decide +kernel
theorem dX9_init_95 : decode cX9_init 95 = .ok (.bipush 8, 2) := by decide +kernel
theorem dX9_init_97 : decode cX9_init 97 = .ok (.newarray .int, 2) := by decide +kernel
theorem dX9_init_99 : decode cX9_init 99 = .ok (.putfield 45, 3) := by decide +kernel
theorem dX9_init_102 : decode cX9_init 102 = .ok (.aload_n 0, 1) := by decide +kernel
theorem dX9_init_103 : decode cX9_init 103 = .ok (.bipush 101, 2) := by decide +kernel
theorem dX9_init_105 : decode cX9_init 105 = .ok (.newarray .int, 2) := by decide +kernel
theorem dX9_init_107 : decode cX9_init 107 = .ok (.putfield 48, 3) := by decide +kernel
theorem dX9_init_110 : decode cX9_init 110 = .ok (.aload_n 0, 1) := by decide +kernel
theorem dX9_init_111 : decode cX9_init 111 = .ok (.bipush 30, 2) := by decide +kernel
theorem dX9_init_113 : decode cX9_init 113 = .ok (.newarray .int, 2) := by decide +kernel
theorem dX9_init_115 : decode cX9_init 115 = .ok (.putfield 51, 3) := by decide +kernel
theorem dX9_init_118 : decode cX9_init 118 = .ok (.aload_n 0, 1) := by decide +kernel
theorem dX9_init_119 : decode cX9_init 119 = .ok (.sipush 162, 3) := by decide +kernel
theorem dX9_init_122 : decode cX9_init 122 = .ok (.newarray .long, 2) := by decide +kernel
theorem dX9_init_124 : decode cX9_init 124 = .ok (.putfield 54, 3) := by decide +kernel
theorem dX9_init_127 : decode cX9_init 127 = .ok (.aload_n 0, 1) := by decide +kernel
theorem dX9_init_128 : decode cX9_init 128 = .ok (.iconst 2, 1) := by decide +kernel
theorem dX9_init_129 : decode cX9_init 129 = .ok (.newarray .boolean, 2) := by decide +kernel
theorem dX9_init_131 : decode cX9_init 131 = .ok (.putfield 57, 3) := by decide +kernel
theorem dX9_init_134 : decode cX9_init 134 = .ok (.aload_n 0, 1) := by decide +kernel
theorem dX9_init_135 : decode cX9_init 135 = .ok (.iconst (-1), 1) := by decide +kernel
theorem dX9_init_136 : decode cX9_init 136 = .ok (.putfield 60, 3) := by decide +kernel
theorem dX9_init_139 : decode cX9_init 139 = .ok (.return_, 1) := by decide +kernel
theorem dX9_at_0 : decode cX9_at 0 = .ok (.aload_n 0, 1) := by decide +kernel
theorem dX9_at_1 : decode cX9_at 1 = .ok (.getfield 19, 3) := by decide +kernel
theorem dX9_at_4 : decode cX9_at 4 = .ok (.iload_n 1, 1) := by decide +kernel
theorem dX9_at_5 : decode cX9_at 5 = .ok (.laload, 1) := by decide +kernel
theorem dX9_at_6 : decode cX9_at 6 = .ok (.l2i, 1) := by decide +kernel
theorem dX9_at_7 : decode cX9_at 7 = .ok (.ireturn, 1) := by decide +kernel
theorem dX9_isRoom_0 : decode cX9_isRoom 0 = .ok (.iload_n 1, 1) := by decide +kernel
theorem dX9_isRoom_1 : decode cX9_isRoom 1 = .ok (.i2l, 1) := by decide +kernel
theorem dX9_isRoom_2 : decode cX9_isRoom 2 = .ok (.lconst 0, 1) := by decide +kernel
theorem dX9_isRoom_3 : decode cX9_isRoom 3 = .ok (.aload_n 0, 1) := by decide +kernel
theorem dX9_isRoom_4 : decode cX9_isRoom 4 = .ok (.getfield 64, 3) := by decide +kernel
theorem dX9_isRoom_7 : decode cX9_isRoom 7 = .ok (.iconst 1, 1) := by decide +kernel
theorem dX9_isRoom_8 : decode cX9_isRoom 8 = .ok (.isub, 1) := by decide +kernel
theorem dX9_isRoom_9 : decode cX9_isRoom 9 = .ok (.i2l, 1) := by decide +kernel
theorem dX9_isRoom_10 : decode cX9_isRoom 10 = .ok (.invokestatic 67, 3) := by decide +kernel
theorem dX9_isRoom_13 : decode cX9_isRoom 13 = .ok (.ireturn, 1) := by decide +kernel
theorem dX9_isDoor_0 : decode cX9_isDoor 0 = .ok (.iload_n 1, 1) := by decide +kernel
theorem dX9_isDoor_1 : decode cX9_isDoor 1 = .ok (.i2l, 1) := by decide +kernel
theorem dX9_isDoor_2 : decode cX9_isDoor 2 = .ok (.lconst 0, 1) := by decide +kernel
theorem dX9_isDoor_3 : decode cX9_isDoor 3 = .ok (.aload_n 0, 1) := by decide +kernel
theorem dX9_isDoor_4 : decode cX9_isDoor 4 = .ok (.getfield 71, 3) := by decide +kernel
theorem dX9_isDoor_7 : decode cX9_isDoor 7 = .ok (.iconst 1, 1) := by decide +kernel
theorem dX9_isDoor_8 : decode cX9_isDoor 8 = .ok (.isub, 1) := by decide +kernel
theorem dX9_isDoor_9 : decode cX9_isDoor 9 = .ok (.i2l, 1) := by decide +kernel
theorem dX9_isDoor_10 : decode cX9_isDoor 10 = .ok (.invokestatic 67, 3) := by decide +kernel
theorem dX9_isDoor_13 : decode cX9_isDoor 13 = .ok (.ireturn, 1) := by decide +kernel
theorem dX9_isPetition_0 : decode cX9_isPetition 0 = .ok (.iload_n 1, 1) := by decide +kernel
theorem dX9_isPetition_1 : decode cX9_isPetition 1 = .ok (.i2l, 1) := by decide +kernel
theorem dX9_isPetition_2 : decode cX9_isPetition 2 = .ok (.lconst 0, 1) := by decide +kernel
theorem dX9_isPetition_3 : decode cX9_isPetition 3 = .ok (.aload_n 0, 1) := by decide +kernel
theorem dX9_isPetition_4 : decode cX9_isPetition 4 = .ok (.getfield 74, 3) := by decide +kernel
theorem dX9_isPetition_7 : decode cX9_isPetition 7 = .ok (.iconst 1, 1) := by decide +kernel
theorem dX9_isPetition_8 : decode cX9_isPetition 8 = .ok (.isub, 1) := by decide +kernel
theorem dX9_isPetition_9 : decode cX9_isPetition 9 = .ok (.i2l, 1) := by decide +kernel
theorem dX9_isPetition_10 : decode cX9_isPetition 10 = .ok (.invokestatic 67, 3) := by decide +kernel
theorem dX9_isPetition_13 : decode cX9_isPetition 13 = .ok (.ireturn, 1) := by decide +kernel
theorem dX9_isRule_0 : decode cX9_isRule 0 = .ok (.iload_n 0, 1) := by decide +kernel
theorem dX9_isRule_1 : decode cX9_isRule 1 = .ok (.i2l, 1) := by decide +kernel
theorem dX9_isRule_2 : decode cX9_isRule 2 = .ok (.lconst 0, 1) := by decide +kernel
theorem dX9_isRule_3 : decode cX9_isRule 3 = .ok (.ldc2_w 77, 3) := by decide +kernel
theorem dX9_isRule_6 : decode cX9_isRule 6 = .ok (.invokestatic 67, 3) := by decide +kernel
theorem dX9_isRule_9 : decode cX9_isRule 9 = .ok (.ireturn, 1) := by decide +kernel
theorem dX9_doorBetween_0 : decode cX9_doorBetween 0 = .ok (.iconst (-1), 1) := by decide +kernel
theorem dX9_doorBetween_1 : decode cX9_doorBetween 1 = .ok (.istore_n 3, 1) := by decide +kernel
theorem dX9_doorBetween_2 : decode cX9_doorBetween 2 = .ok (.iconst 0, 1) := by decide +kernel
theorem dX9_doorBetween_3 : decode cX9_doorBetween 3 = .ok (.istore 4, 2) := by decide +kernel
theorem dX9_doorBetween_5 : decode cX9_doorBetween 5 = .ok (.iload 4, 2) := by decide +kernel
theorem dX9_doorBetween_7 : decode cX9_doorBetween 7 = .ok (.aload_n 0, 1) := by decide +kernel
theorem dX9_doorBetween_8 : decode cX9_doorBetween 8 = .ok (.getfield 71, 3) := by decide +kernel
theorem dX9_doorBetween_11 : decode cX9_doorBetween 11 = .ok (.if_icmp .ge 60, 3) := by decide +kernel
theorem dX9_doorBetween_14 : decode cX9_doorBetween 14 = .ok (.aload_n 0, 1) := by decide +kernel
theorem dX9_doorBetween_15 : decode cX9_doorBetween 15 = .ok (.getfield 7, 3) := by decide +kernel
theorem dX9_doorBetween_18 : decode cX9_doorBetween 18 = .ok (.iload 4, 2) := by decide +kernel
theorem dX9_doorBetween_20 : decode cX9_doorBetween 20 = .ok (.iaload, 1) := by decide +kernel
theorem dX9_doorBetween_21 : decode cX9_doorBetween 21 = .ok (.iload_n 1, 1) := by decide +kernel
theorem dX9_doorBetween_22 : decode cX9_doorBetween 22 = .ok (.if_icmp .ne 14, 3) := by decide +kernel
theorem dX9_doorBetween_25 : decode cX9_doorBetween 25 = .ok (.aload_n 0, 1) := by decide +kernel
theorem dX9_doorBetween_26 : decode cX9_doorBetween 26 = .ok (.getfield 13, 3) := by decide +kernel
theorem dX9_doorBetween_29 : decode cX9_doorBetween 29 = .ok (.iload 4, 2) := by decide +kernel
theorem dX9_doorBetween_31 : decode cX9_doorBetween 31 = .ok (.iaload, 1) := by decide +kernel
theorem dX9_doorBetween_32 : decode cX9_doorBetween 32 = .ok (.iload_n 2, 1) := by decide +kernel
theorem dX9_doorBetween_33 : decode cX9_doorBetween 33 = .ok (.if_icmp .eq 25, 3) := by decide +kernel
theorem dX9_doorBetween_36 : decode cX9_doorBetween 36 = .ok (.aload_n 0, 1) := by decide +kernel
theorem dX9_doorBetween_37 : decode cX9_doorBetween 37 = .ok (.getfield 7, 3) := by decide +kernel
theorem dX9_doorBetween_40 : decode cX9_doorBetween 40 = .ok (.iload 4, 2) := by decide +kernel
theorem dX9_doorBetween_42 : decode cX9_doorBetween 42 = .ok (.iaload, 1) := by decide +kernel
theorem dX9_doorBetween_43 : decode cX9_doorBetween 43 = .ok (.iload_n 2, 1) := by decide +kernel
theorem dX9_doorBetween_44 : decode cX9_doorBetween 44 = .ok (.if_icmp .ne 19, 3) := by decide +kernel
theorem dX9_doorBetween_47 : decode cX9_doorBetween 47 = .ok (.aload_n 0, 1) := by decide +kernel
theorem dX9_doorBetween_48 : decode cX9_doorBetween 48 = .ok (.getfield 13, 3) := by decide +kernel
theorem dX9_doorBetween_51 : decode cX9_doorBetween 51 = .ok (.iload 4, 2) := by decide +kernel
theorem dX9_doorBetween_53 : decode cX9_doorBetween 53 = .ok (.iaload, 1) := by decide +kernel
theorem dX9_doorBetween_54 : decode cX9_doorBetween 54 = .ok (.iload_n 1, 1) := by decide +kernel
theorem dX9_doorBetween_55 : decode cX9_doorBetween 55 = .ok (.if_icmp .ne 8, 3) := by decide +kernel
theorem dX9_doorBetween_58 : decode cX9_doorBetween 58 = .ok (.iload 4, 2) := by decide +kernel
theorem dX9_doorBetween_60 : decode cX9_doorBetween 60 = .ok (.goto 4, 3) := by decide +kernel
theorem dX9_doorBetween_63 : decode cX9_doorBetween 63 = .ok (.iload_n 3, 1) := by decide +kernel
theorem dX9_doorBetween_64 : decode cX9_doorBetween 64 = .ok (.istore_n 3, 1) := by decide +kernel
theorem dX9_doorBetween_65 : decode cX9_doorBetween 65 = .ok (.iinc 4 1, 3) := by decide +kernel
theorem dX9_doorBetween_68 : decode cX9_doorBetween 68 = .ok (.goto (-63), 3) := by decide +kernel
theorem dX9_doorBetween_71 : decode cX9_doorBetween 71 = .ok (.iload_n 3, 1) := by decide +kernel
theorem dX9_doorBetween_72 : decode cX9_doorBetween 72 = .ok (.ireturn, 1) := by decide +kernel
theorem dX9_pull_0 : decode cX9_pull 0 = .ok (.iload_n 0, 1) := by decide +kernel
theorem dX9_pull_1 : decode cX9_pull 1 = .ok (.bipush 16, 2) := by decide +kernel
theorem dX9_pull_3 : decode cX9_pull 3 = .ok (.idiv, 1) := by decide +kernel
theorem dX9_pull_4 : decode cX9_pull 4 = .ok (.istore 5, 2) := by decide +kernel
theorem dX9_pull_6 : decode cX9_pull 6 = .ok (.iload_n 0, 1) := by decide +kernel
theorem dX9_pull_7 : decode cX9_pull 7 = .ok (.iconst 4, 1) := by decide +kernel
theorem dX9_pull_8 : decode cX9_pull 8 = .ok (.idiv, 1) := by decide +kernel
theorem dX9_pull_9 : decode cX9_pull 9 = .ok (.iconst 4, 1) := by decide +kernel
theorem dX9_pull_10 : decode cX9_pull 10 = .ok (.irem, 1) := by decide +kernel
theorem dX9_pull_11 : decode cX9_pull 11 = .ok (.istore 6, 2) := by decide +kernel
theorem dX9_pull_13 : decode cX9_pull 13 = .ok (.iload_n 0, 1) := by decide +kernel
theorem dX9_pull_14 : decode cX9_pull 14 = .ok (.iconst 4, 1) := by decide +kernel
theorem dX9_pull_15 : decode cX9_pull 15 = .ok (.irem, 1) := by decide +kernel
theorem dX9_pull_16 : decode cX9_pull 16 = .ok (.istore 7, 2) := by decide +kernel
theorem dX9_pull_18 : decode cX9_pull 18 = .ok (.iload 5, 2) := by decide +kernel
theorem dX9_pull_20 : decode cX9_pull 20 = .ok (.iload_n 1, 1) := by decide +kernel
theorem dX9_pull_21 : decode cX9_pull 21 = .ok (.imul, 1) := by decide +kernel
theorem dX9_pull_22 : decode cX9_pull 22 = .ok (.iload 4, 2) := by decide +kernel
theorem dX9_pull_24 : decode cX9_pull 24 = .ok (.ifCond .eq 7, 3) := by decide +kernel
theorem dX9_pull_27 : decode cX9_pull 27 = .ok (.iconst 2, 1) := by decide +kernel
theorem dX9_pull_28 : decode cX9_pull 28 = .ok (.goto 4, 3) := by decide +kernel
theorem dX9_pull_31 : decode cX9_pull 31 = .ok (.iconst 1, 1) := by decide +kernel
theorem dX9_pull_32 : decode cX9_pull 32 = .ok (.imul, 1) := by decide +kernel
theorem dX9_pull_33 : decode cX9_pull 33 = .ok (.iload_n 2, 1) := by decide +kernel
theorem dX9_pull_34 : decode cX9_pull 34 = .ok (.ifCond .eq 7, 3) := by decide +kernel
theorem dX9_pull_37 : decode cX9_pull 37 = .ok (.iconst 0, 1) := by decide +kernel
theorem dX9_pull_38 : decode cX9_pull 38 = .ok (.goto 7, 3) := by decide +kernel
theorem dX9_pull_41 : decode cX9_pull 41 = .ok (.iload 6, 2) := by decide +kernel
theorem dX9_pull_43 : decode cX9_pull 43 = .ok (.iconst 3, 1) := by decide +kernel
theorem dX9_pull_44 : decode cX9_pull 44 = .ok (.imul, 1) := by decide +kernel
theorem dX9_pull_45 : decode cX9_pull 45 = .ok (.iadd, 1) := by decide +kernel
theorem dX9_pull_46 : decode cX9_pull 46 = .ok (.iload 7, 2) := by decide +kernel
theorem dX9_pull_48 : decode cX9_pull 48 = .ok (.iload_n 3, 1) := by decide +kernel
theorem dX9_pull_49 : decode cX9_pull 49 = .ok (.imul, 1) := by decide +kernel
theorem dX9_pull_50 : decode cX9_pull 50 = .ok (.iadd, 1) := by decide +kernel
theorem dX9_pull_51 : decode cX9_pull 51 = .ok (.ireturn, 1) := by decide +kernel
theorem dX9_noises_0 : decode cX9_noises 0 = .ok (.lconst 0, 1) := by decide +kernel
theorem dX9_noises_1 : decode cX9_noises 1 = .ok (.lstore_n 1, 1) := by decide +kernel
theorem dX9_noises_2 : decode cX9_noises 2 = .ok (.iconst 0, 1) := by decide +kernel
theorem dX9_noises_3 : decode cX9_noises 3 = .ok (.istore_n 3, 1) := by decide +kernel
theorem dX9_noises_4 : decode cX9_noises 4 = .ok (.iload_n 3, 1) := by decide +kernel
theorem dX9_noises_5 : decode cX9_noises 5 = .ok (.aload_n 0, 1) := by decide +kernel
theorem dX9_noises_6 : decode cX9_noises 6 = .ok (.getfield 64, 3) := by decide +kernel
theorem dX9_noises_9 : decode cX9_noises 9 = .ok (.if_icmp .ge 25, 3) := by decide +kernel
theorem dX9_noises_12 : decode cX9_noises 12 = .ok (.lload_n 1, 1) := by decide +kernel
theorem dX9_noises_13 : decode cX9_noises 13 = .ok (.aload_n 0, 1) := by decide +kernel
theorem dX9_noises_14 : decode cX9_noises 14 = .ok (.getfield 19, 3) := by decide +kernel
theorem dX9_noises_17 : decode cX9_noises 17 = .ok (.bipush 10, 2) := by decide +kernel
theorem dX9_noises_19 : decode cX9_noises 19 = .ok (.iload_n 3, 1) := by decide +kernel
theorem dX9_noises_20 : decode cX9_noises 20 = .ok (.iadd, 1) := by decide +kernel
theorem dX9_noises_21 : decode cX9_noises 21 = .ok (.laload, 1) := by decide +kernel
theorem dX9_noises_22 : decode cX9_noises 22 = .ok (.iconst 4, 1) := by decide +kernel
theorem dX9_noises_23 : decode cX9_noises 23 = .ok (.iload_n 3, 1) := by decide +kernel
theorem dX9_noises_24 : decode cX9_noises 24 = .ok (.imul, 1) := by decide +kernel
theorem dX9_noises_25 : decode cX9_noises 25 = .ok (.lshl, 1) := by decide +kernel
theorem dX9_noises_26 : decode cX9_noises 26 = .ok (.lor, 1) := by decide +kernel
theorem dX9_noises_27 : decode cX9_noises 27 = .ok (.lstore_n 1, 1) := by decide +kernel
theorem dX9_noises_28 : decode cX9_noises 28 = .ok (.iinc 3 1, 3) := by decide +kernel
theorem dX9_noises_31 : decode cX9_noises 31 = .ok (.goto (-27), 3) := by decide +kernel
theorem dX9_noises_34 : decode cX9_noises 34 = .ok (.lload_n 1, 1) := by decide +kernel
theorem dX9_noises_35 : decode cX9_noises 35 = .ok (.lreturn, 1) := by decide +kernel
theorem dX9_counts_0 : decode cX9_counts 0 = .ok (.lconst 0, 1) := by decide +kernel
theorem dX9_counts_1 : decode cX9_counts 1 = .ok (.lstore_n 1, 1) := by decide +kernel
theorem dX9_counts_2 : decode cX9_counts 2 = .ok (.iconst 0, 1) := by decide +kernel
theorem dX9_counts_3 : decode cX9_counts 3 = .ok (.istore_n 3, 1) := by decide +kernel
theorem dX9_counts_4 : decode cX9_counts 4 = .ok (.iload_n 3, 1) := by decide +kernel
theorem dX9_counts_5 : decode cX9_counts 5 = .ok (.aload_n 0, 1) := by decide +kernel
theorem dX9_counts_6 : decode cX9_counts 6 = .ok (.getfield 64, 3) := by decide +kernel
theorem dX9_counts_9 : decode cX9_counts 9 = .ok (.if_icmp .ge 47, 3) := by decide +kernel
theorem dX9_counts_12 : decode cX9_counts 12 = .ok (.lload_n 1, 1) := by decide +kernel
theorem dX9_counts_13 : decode cX9_counts 13 = .ok (.aload_n 0, 1) := by decide +kernel
theorem dX9_counts_14 : decode cX9_counts 14 = .ok (.getfield 19, 3) := by decide +kernel
theorem dX9_counts_17 : decode cX9_counts 17 = .ok (.bipush 18, 2) := by decide +kernel
theorem dX9_counts_19 : decode cX9_counts 19 = .ok (.iload_n 3, 1) := by decide +kernel
theorem dX9_counts_20 : decode cX9_counts 20 = .ok (.iadd, 1) := by decide +kernel
theorem dX9_counts_21 : decode cX9_counts 21 = .ok (.laload, 1) := by decide +kernel
theorem dX9_counts_22 : decode cX9_counts 22 = .ok (.ldc2_w 79, 3) := by decide +kernel
theorem dX9_counts_25 : decode cX9_counts 25 = .ok (.lcmp, 1) := by decide +kernel
theorem dX9_counts_26 : decode cX9_counts 26 = .ok (.ifCond .le 9, 3) := by decide +kernel
theorem dX9_counts_29 : decode cX9_counts 29 = .ok (.ldc2_w 79, 3) := by decide +kernel
theorem dX9_counts_32 : decode cX9_counts 32 = .ok (.goto 12, 3) := by decide +kernel
theorem dX9_counts_35 : decode cX9_counts 35 = .ok (.aload_n 0, 1) := by decide +kernel
theorem dX9_counts_36 : decode cX9_counts 36 = .ok (.getfield 19, 3) := by decide +kernel
theorem dX9_counts_39 : decode cX9_counts 39 = .ok (.bipush 18, 2) := by decide +kernel
theorem dX9_counts_41 : decode cX9_counts 41 = .ok (.iload_n 3, 1) := by decide +kernel
theorem dX9_counts_42 : decode cX9_counts 42 = .ok (.iadd, 1) := by decide +kernel
theorem dX9_counts_43 : decode cX9_counts 43 = .ok (.laload, 1) := by decide +kernel
theorem dX9_counts_44 : decode cX9_counts 44 = .ok (.iconst 4, 1) := by decide +kernel
theorem dX9_counts_45 : decode cX9_counts 45 = .ok (.iload_n 3, 1) := by decide +kernel
theorem dX9_counts_46 : decode cX9_counts 46 = .ok (.imul, 1) := by decide +kernel
theorem dX9_counts_47 : decode cX9_counts 47 = .ok (.lshl, 1) := by decide +kernel
theorem dX9_counts_48 : decode cX9_counts 48 = .ok (.lor, 1) := by decide +kernel
theorem dX9_counts_49 : decode cX9_counts 49 = .ok (.lstore_n 1, 1) := by decide +kernel
theorem dX9_counts_50 : decode cX9_counts 50 = .ok (.iinc 3 1, 3) := by decide +kernel
theorem dX9_counts_53 : decode cX9_counts 53 = .ok (.goto (-49), 3) := by decide +kernel
theorem dX9_counts_56 : decode cX9_counts 56 = .ok (.lload_n 1, 1) := by decide +kernel
theorem dX9_counts_57 : decode cX9_counts 57 = .ok (.lreturn, 1) := by decide +kernel
theorem dX9_has_0 : decode cX9_has 0 = .ok (.lload_n 0, 1) := by decide +kernel
theorem dX9_has_1 : decode cX9_has 1 = .ok (.iload_n 2, 1) := by decide +kernel
theorem dX9_has_2 : decode cX9_has 2 = .ok (.lshr, 1) := by decide +kernel
theorem dX9_has_3 : decode cX9_has 3 = .ok (.lconst 1, 1) := by decide +kernel
theorem dX9_has_4 : decode cX9_has 4 = .ok (.land, 1) := by decide +kernel
theorem dX9_has_5 : decode cX9_has 5 = .ok (.lconst 1, 1) := by decide +kernel
theorem dX9_has_6 : decode cX9_has 6 = .ok (.lcmp, 1) := by decide +kernel
theorem dX9_has_7 : decode cX9_has 7 = .ok (.ifCond .ne 7, 3) := by decide +kernel
theorem dX9_has_10 : decode cX9_has 10 = .ok (.iconst 1, 1) := by decide +kernel
theorem dX9_has_11 : decode cX9_has 11 = .ok (.goto 4, 3) := by decide +kernel
theorem dX9_has_14 : decode cX9_has 14 = .ok (.iconst 0, 1) := by decide +kernel
theorem dX9_has_15 : decode cX9_has 15 = .ok (.ireturn, 1) := by decide +kernel
theorem dX9_goesTo_0 : decode cX9_goesTo 0 = .ok (.iload_n 2, 1) := by decide +kernel
theorem dX9_goesTo_1 : decode cX9_goesTo 1 = .ok (.istore 14, 2) := by decide +kernel
theorem dX9_goesTo_3 : decode cX9_goesTo 3 = .ok (.iconst (-1), 1) := by decide +kernel
theorem dX9_goesTo_4 : decode cX9_goesTo 4 = .ok (.istore 15, 2) := by decide +kernel
theorem dX9_goesTo_6 : decode cX9_goesTo 6 = .ok (.iconst 0, 1) := by decide +kernel
theorem dX9_goesTo_7 : decode cX9_goesTo 7 = .ok (.istore 16, 2) := by decide +kernel
theorem dX9_goesTo_9 : decode cX9_goesTo 9 = .ok (.iload 16, 2) := by decide +kernel
theorem dX9_goesTo_11 : decode cX9_goesTo 11 = .ok (.aload_n 0, 1) := by decide +kernel
theorem dX9_goesTo_12 : decode cX9_goesTo 12 = .ok (.getfield 64, 3) := by decide +kernel
theorem dX9_goesTo_15 : decode cX9_goesTo 15 = .ok (.if_icmp .ge 126, 3) := by decide +kernel
theorem dX9_goesTo_18 : decode cX9_goesTo 18 = .ok (.aload_n 0, 1) := by decide +kernel
theorem dX9_goesTo_19 : decode cX9_goesTo 19 = .ok (.iload_n 2, 1) := by decide +kernel
theorem dX9_goesTo_20 : decode cX9_goesTo 20 = .ok (.iload 16, 2) := by decide +kernel
theorem dX9_goesTo_22 : decode cX9_goesTo 22 = .ok (.invokevirtual 81, 3) := by decide +kernel
theorem dX9_goesTo_25 : decode cX9_goesTo 25 = .ok (.istore 17, 2) := by decide +kernel
theorem dX9_goesTo_27 : decode cX9_goesTo 27 = .ok (.iload 17, 2) := by decide +kernel
theorem dX9_goesTo_29 : decode cX9_goesTo 29 = .ok (.iconst (-1), 1) := by decide +kernel
theorem dX9_goesTo_30 : decode cX9_goesTo 30 = .ok (.if_icmp .eq 105, 3) := by decide +kernel
theorem dX9_goesTo_33 : decode cX9_goesTo 33 = .ok (.lload 7, 2) := by decide +kernel
theorem dX9_goesTo_35 : decode cX9_goesTo 35 = .ok (.iload 17, 2) := by decide +kernel
theorem dX9_goesTo_37 : decode cX9_goesTo 37 = .ok (.invokestatic 85, 3) := by decide +kernel
theorem dX9_goesTo_40 : decode cX9_goesTo 40 = .ok (.ifCond .ne 95, 3) := by decide +kernel
theorem dX9_goesTo_43 : decode cX9_goesTo 43 = .ok (.lload 5, 2) := by decide +kernel
theorem dX9_goesTo_45 : decode cX9_goesTo 45 = .ok (.iload 16, 2) := by decide +kernel
theorem dX9_goesTo_47 : decode cX9_goesTo 47 = .ok (.invokestatic 85, 3) := by decide +kernel
theorem dX9_goesTo_50 : decode cX9_goesTo 50 = .ok (.ifCond .ne 85, 3) := by decide +kernel
theorem dX9_goesTo_53 : decode cX9_goesTo 53 = .ok (.iload_n 1, 1) := by decide +kernel
theorem dX9_goesTo_54 : decode cX9_goesTo 54 = .ok (.lload 9, 2) := by decide +kernel
theorem dX9_goesTo_56 : decode cX9_goesTo 56 = .ok (.iconst 4, 1) := by decide +kernel
theorem dX9_goesTo_57 : decode cX9_goesTo 57 = .ok (.iload 16, 2) := by decide +kernel
theorem dX9_goesTo_59 : decode cX9_goesTo 59 = .ok (.imul, 1) := by decide +kernel
theorem dX9_goesTo_60 : decode cX9_goesTo 60 = .ok (.lshr, 1) := by decide +kernel
theorem dX9_goesTo_61 : decode cX9_goesTo 61 = .ok (.ldc2_w 89, 3) := by decide +kernel
theorem dX9_goesTo_64 : decode cX9_goesTo 64 = .ok (.land, 1) := by decide +kernel
theorem dX9_goesTo_65 : decode cX9_goesTo 65 = .ok (.l2i, 1) := by decide +kernel
theorem dX9_goesTo_66 : decode cX9_goesTo 66 = .ok (.lload_n 3, 1) := by decide +kernel
theorem dX9_goesTo_67 : decode cX9_goesTo 67 = .ok (.iload 16, 2) := by decide +kernel
theorem dX9_goesTo_69 : decode cX9_goesTo 69 = .ok (.invokestatic 85, 3) := by decide +kernel
theorem dX9_goesTo_72 : decode cX9_goesTo 72 = .ok (.lload 11, 2) := by decide +kernel
theorem dX9_goesTo_74 : decode cX9_goesTo 74 = .ok (.iconst 4, 1) := by decide +kernel
theorem dX9_goesTo_75 : decode cX9_goesTo 75 = .ok (.iload 16, 2) := by decide +kernel
theorem dX9_goesTo_77 : decode cX9_goesTo 77 = .ok (.imul, 1) := by decide +kernel
theorem dX9_goesTo_78 : decode cX9_goesTo 78 = .ok (.lshr, 1) := by decide +kernel
theorem dX9_goesTo_79 : decode cX9_goesTo 79 = .ok (.ldc2_w 89, 3) := by decide +kernel
theorem dX9_goesTo_82 : decode cX9_goesTo 82 = .ok (.land, 1) := by decide +kernel
theorem dX9_goesTo_83 : decode cX9_goesTo 83 = .ok (.l2i, 1) := by decide +kernel
theorem dX9_goesTo_84 : decode cX9_goesTo 84 = .ok (.iload 13, 2) := by decide +kernel
theorem dX9_goesTo_86 : decode cX9_goesTo 86 = .ok (.invokestatic 91, 3) := by decide +kernel
theorem dX9_goesTo_89 : decode cX9_goesTo 89 = .ok (.istore 18, 2) := by decide +kernel
theorem dX9_goesTo_91 : decode cX9_goesTo 91 = .ok (.iload 15, 2) := by decide +kernel
theorem dX9_goesTo_93 : decode cX9_goesTo 93 = .ok (.iconst (-1), 1) := by decide +kernel
theorem dX9_goesTo_94 : decode cX9_goesTo 94 = .ok (.if_icmp .eq 10, 3) := by decide +kernel
theorem dX9_goesTo_97 : decode cX9_goesTo 97 = .ok (.iload 18, 2) := by decide +kernel
theorem dX9_goesTo_99 : decode cX9_goesTo 99 = .ok (.iload 15, 2) := by decide +kernel
theorem dX9_goesTo_101 : decode cX9_goesTo 101 = .ok (.if_icmp .ge 8, 3) := by decide +kernel
theorem dX9_goesTo_104 : decode cX9_goesTo 104 = .ok (.iload 16, 2) := by decide +kernel
theorem dX9_goesTo_106 : decode cX9_goesTo 106 = .ok (.goto 5, 3) := by decide +kernel
theorem dX9_goesTo_109 : decode cX9_goesTo 109 = .ok (.iload 14, 2) := by decide +kernel
theorem dX9_goesTo_111 : decode cX9_goesTo 111 = .ok (.istore 14, 2) := by decide +kernel
theorem dX9_goesTo_113 : decode cX9_goesTo 113 = .ok (.iload 15, 2) := by decide +kernel
theorem dX9_goesTo_115 : decode cX9_goesTo 115 = .ok (.iconst (-1), 1) := by decide +kernel
theorem dX9_goesTo_116 : decode cX9_goesTo 116 = .ok (.if_icmp .eq 10, 3) := by decide +kernel
theorem dX9_goesTo_119 : decode cX9_goesTo 119 = .ok (.iload 18, 2) := by decide +kernel
theorem dX9_goesTo_121 : decode cX9_goesTo 121 = .ok (.iload 15, 2) := by decide +kernel
theorem dX9_goesTo_123 : decode cX9_goesTo 123 = .ok (.if_icmp .ge 8, 3) := by decide +kernel
theorem dX9_goesTo_126 : decode cX9_goesTo 126 = .ok (.iload 18, 2) := by decide +kernel
theorem dX9_goesTo_128 : decode cX9_goesTo 128 = .ok (.goto 5, 3) := by decide +kernel
theorem dX9_goesTo_131 : decode cX9_goesTo 131 = .ok (.iload 15, 2) := by decide +kernel
theorem dX9_goesTo_133 : decode cX9_goesTo 133 = .ok (.istore 15, 2) := by decide +kernel
theorem dX9_goesTo_135 : decode cX9_goesTo 135 = .ok (.iinc 16 1, 3) := by decide +kernel
theorem dX9_goesTo_138 : decode cX9_goesTo 138 = .ok (.goto (-129), 3) := by decide +kernel
theorem dX9_goesTo_141 : decode cX9_goesTo 141 = .ok (.iload 14, 2) := by decide +kernel
theorem dX9_goesTo_143 : decode cX9_goesTo 143 = .ok (.ireturn, 1) := by decide +kernel
theorem dX9_isWorn_0 : decode cX9_isWorn 0 = .ok (.aload_n 0, 1) := by decide +kernel
theorem dX9_isWorn_1 : decode cX9_isWorn 1 = .ok (.getfield 19, 3) := by decide +kernel
theorem dX9_isWorn_4 : decode cX9_isWorn 4 = .ok (.iconst 3, 1) := by decide +kernel
theorem dX9_isWorn_5 : decode cX9_isWorn 5 = .ok (.laload, 1) := by decide +kernel
theorem dX9_isWorn_6 : decode cX9_isWorn 6 = .ok (.ldc2_w 95, 3) := by decide +kernel
theorem dX9_isWorn_9 : decode cX9_isWorn 9 = .ok (.lcmp, 1) := by decide +kernel
theorem dX9_isWorn_10 : decode cX9_isWorn 10 = .ok (.ifCond .lt 7, 3) := by decide +kernel
theorem dX9_isWorn_13 : decode cX9_isWorn 13 = .ok (.iconst 1, 1) := by decide +kernel
theorem dX9_isWorn_14 : decode cX9_isWorn 14 = .ok (.goto 4, 3) := by decide +kernel
theorem dX9_isWorn_17 : decode cX9_isWorn 17 = .ok (.iconst 0, 1) := by decide +kernel
theorem dX9_isWorn_18 : decode cX9_isWorn 18 = .ok (.ireturn, 1) := by decide +kernel
theorem dX9_goesNext_0 : decode cX9_goesNext 0 = .ok (.aload_n 0, 1) := by decide +kernel
theorem dX9_goesNext_1 : decode cX9_goesNext 1 = .ok (.iload_n 1, 1) := by decide +kernel
theorem dX9_goesNext_2 : decode cX9_goesNext 2 = .ok (.aload_n 0, 1) := by decide +kernel
theorem dX9_goesNext_3 : decode cX9_goesNext 3 = .ok (.iconst 2, 1) := by decide +kernel
theorem dX9_goesNext_4 : decode cX9_goesNext 4 = .ok (.invokevirtual 97, 3) := by decide +kernel
theorem dX9_goesNext_7 : decode cX9_goesNext 7 = .ok (.lload_n 2, 1) := by decide +kernel
theorem dX9_goesNext_8 : decode cX9_goesNext 8 = .ok (.aload_n 0, 1) := by decide +kernel
theorem dX9_goesNext_9 : decode cX9_goesNext 9 = .ok (.getfield 19, 3) := by decide +kernel
theorem dX9_goesNext_12 : decode cX9_goesNext 12 = .ok (.iconst 5, 1) := by decide +kernel
theorem dX9_goesNext_13 : decode cX9_goesNext 13 = .ok (.laload, 1) := by decide +kernel
theorem dX9_goesNext_14 : decode cX9_goesNext 14 = .ok (.aload_n 0, 1) := by decide +kernel
theorem dX9_goesNext_15 : decode cX9_goesNext 15 = .ok (.getfield 19, 3) := by decide +kernel
theorem dX9_goesNext_18 : decode cX9_goesNext 18 = .ok (.bipush 6, 2) := by decide +kernel
theorem dX9_goesNext_20 : decode cX9_goesNext 20 = .ok (.laload, 1) := by decide +kernel
theorem dX9_goesNext_21 : decode cX9_goesNext 21 = .ok (.aload_n 0, 1) := by decide +kernel
theorem dX9_goesNext_22 : decode cX9_goesNext 22 = .ok (.invokevirtual 101, 3) := by decide +kernel
theorem dX9_goesNext_25 : decode cX9_goesNext 25 = .ok (.aload_n 0, 1) := by decide +kernel
theorem dX9_goesNext_26 : decode cX9_goesNext 26 = .ok (.invokevirtual 105, 3) := by decide +kernel
theorem dX9_goesNext_29 : decode cX9_goesNext 29 = .ok (.aload_n 0, 1) := by decide +kernel
theorem dX9_goesNext_30 : decode cX9_goesNext 30 = .ok (.invokevirtual 108, 3) := by decide +kernel
theorem dX9_goesNext_33 : decode cX9_goesNext 33 = .ok (.invokevirtual 112, 3) := by decide +kernel
theorem dX9_goesNext_36 : decode cX9_goesNext 36 = .ok (.ireturn, 1) := by decide +kernel
theorem dX9_remembers_0 : decode cX9_remembers 0 = .ok (.aload_n 0, 1) := by decide +kernel
theorem dX9_remembers_1 : decode cX9_remembers 1 = .ok (.getfield 19, 3) := by decide +kernel
theorem dX9_remembers_4 : decode cX9_remembers 4 = .ok (.bipush 9, 2) := by decide +kernel
theorem dX9_remembers_6 : decode cX9_remembers 6 = .ok (.laload, 1) := by decide +kernel
theorem dX9_remembers_7 : decode cX9_remembers 7 = .ok (.ldc2_w 116, 3) := by decide +kernel
theorem dX9_remembers_10 : decode cX9_remembers 10 = .ok (.lcmp, 1) := by decide +kernel
theorem dX9_remembers_11 : decode cX9_remembers 11 = .ok (.ifCond .ne 47, 3) := by decide +kernel
theorem dX9_remembers_14 : decode cX9_remembers 14 = .ok (.iconst 3, 1) := by decide +kernel
theorem dX9_remembers_15 : decode cX9_remembers 15 = .ok (.istore_n 2, 1) := by decide +kernel
theorem dX9_remembers_16 : decode cX9_remembers 16 = .ok (.iload_n 2, 1) := by decide +kernel
theorem dX9_remembers_17 : decode cX9_remembers 17 = .ok (.bipush 48, 2) := by decide +kernel
theorem dX9_remembers_19 : decode cX9_remembers 19 = .ok (.if_icmp .ge 29, 3) := by decide +kernel
theorem dX9_remembers_22 : decode cX9_remembers 22 = .ok (.aload_n 0, 1) := by decide +kernel
theorem dX9_remembers_23 : decode cX9_remembers 23 = .ok (.getfield 19, 3) := by decide +kernel
theorem dX9_remembers_26 : decode cX9_remembers 26 = .ok (.bipush 32, 2) := by decide +kernel
theorem dX9_remembers_28 : decode cX9_remembers 28 = .ok (.iload_n 2, 1) := by decide +kernel
theorem dX9_remembers_29 : decode cX9_remembers 29 = .ok (.iadd, 1) := by decide +kernel
theorem dX9_remembers_30 : decode cX9_remembers 30 = .ok (.iconst 3, 1) := by decide +kernel
theorem dX9_remembers_31 : decode cX9_remembers 31 = .ok (.isub, 1) := by decide +kernel
theorem dX9_remembers_32 : decode cX9_remembers 32 = .ok (.aload_n 0, 1) := by decide +kernel
theorem dX9_remembers_33 : decode cX9_remembers 33 = .ok (.getfield 19, 3) := by decide +kernel
theorem dX9_remembers_36 : decode cX9_remembers 36 = .ok (.bipush 32, 2) := by decide +kernel
theorem dX9_remembers_38 : decode cX9_remembers 38 = .ok (.iload_n 2, 1) := by decide +kernel
theorem dX9_remembers_39 : decode cX9_remembers 39 = .ok (.iadd, 1) := by decide +kernel
theorem dX9_remembers_40 : decode cX9_remembers 40 = .ok (.laload, 1) := by decide +kernel
theorem dX9_remembers_41 : decode cX9_remembers 41 = .ok (.lastore, 1) := by decide +kernel
theorem dX9_remembers_42 : decode cX9_remembers 42 = .ok (.iinc 2 1, 3) := by decide +kernel
theorem dX9_remembers_45 : decode cX9_remembers 45 = .ok (.goto (-29), 3) := by decide +kernel
theorem dX9_remembers_48 : decode cX9_remembers 48 = .ok (.aload_n 0, 1) := by decide +kernel
theorem dX9_remembers_49 : decode cX9_remembers 49 = .ok (.getfield 19, 3) := by decide +kernel
theorem dX9_remembers_52 : decode cX9_remembers 52 = .ok (.bipush 9, 2) := by decide +kernel
theorem dX9_remembers_54 : decode cX9_remembers 54 = .ok (.ldc2_w 89, 3) := by decide +kernel
theorem dX9_remembers_57 : decode cX9_remembers 57 = .ok (.lastore, 1) := by decide +kernel
theorem dX9_remembers_58 : decode cX9_remembers 58 = .ok (.bipush 32, 2) := by decide +kernel
theorem dX9_remembers_60 : decode cX9_remembers 60 = .ok (.iconst 3, 1) := by decide +kernel
theorem dX9_remembers_61 : decode cX9_remembers 61 = .ok (.aload_n 0, 1) := by decide +kernel
theorem dX9_remembers_62 : decode cX9_remembers 62 = .ok (.bipush 9, 2) := by decide +kernel
theorem dX9_remembers_64 : decode cX9_remembers 64 = .ok (.invokevirtual 97, 3) := by decide +kernel
theorem dX9_remembers_67 : decode cX9_remembers 67 = .ok (.imul, 1) := by decide +kernel
theorem dX9_remembers_68 : decode cX9_remembers 68 = .ok (.iadd, 1) := by decide +kernel
theorem dX9_remembers_69 : decode cX9_remembers 69 = .ok (.istore_n 2, 1) := by decide +kernel
theorem dX9_remembers_70 : decode cX9_remembers 70 = .ok (.aload_n 0, 1) := by decide +kernel
theorem dX9_remembers_71 : decode cX9_remembers 71 = .ok (.getfield 19, 3) := by decide +kernel
theorem dX9_remembers_74 : decode cX9_remembers 74 = .ok (.iload_n 2, 1) := by decide +kernel
theorem dX9_remembers_75 : decode cX9_remembers 75 = .ok (.aload_n 0, 1) := by decide +kernel
theorem dX9_remembers_76 : decode cX9_remembers 76 = .ok (.getfield 19, 3) := by decide +kernel
theorem dX9_remembers_79 : decode cX9_remembers 79 = .ok (.iconst 2, 1) := by decide +kernel
theorem dX9_remembers_80 : decode cX9_remembers 80 = .ok (.laload, 1) := by decide +kernel
theorem dX9_remembers_81 : decode cX9_remembers 81 = .ok (.iload_n 1, 1) := by decide +kernel
theorem dX9_remembers_82 : decode cX9_remembers 82 = .ok (.i2l, 1) := by decide +kernel
theorem dX9_remembers_83 : decode cX9_remembers 83 = .ok (.iconst 3, 1) := by decide +kernel
theorem dX9_remembers_84 : decode cX9_remembers 84 = .ok (.lshl, 1) := by decide +kernel
theorem dX9_remembers_85 : decode cX9_remembers 85 = .ok (.lor, 1) := by decide +kernel
theorem dX9_remembers_86 : decode cX9_remembers 86 = .ok (.aload_n 0, 1) := by decide +kernel
theorem dX9_remembers_87 : decode cX9_remembers 87 = .ok (.getfield 19, 3) := by decide +kernel
theorem dX9_remembers_90 : decode cX9_remembers 90 = .ok (.iconst 4, 1) := by decide +kernel
theorem dX9_remembers_91 : decode cX9_remembers 91 = .ok (.laload, 1) := by decide +kernel
theorem dX9_remembers_92 : decode cX9_remembers 92 = .ok (.bipush 6, 2) := by decide +kernel
theorem dX9_remembers_94 : decode cX9_remembers 94 = .ok (.lshl, 1) := by decide +kernel
theorem dX9_remembers_95 : decode cX9_remembers 95 = .ok (.lor, 1) := by decide +kernel
theorem dX9_remembers_96 : decode cX9_remembers 96 = .ok (.aload_n 0, 1) := by decide +kernel
theorem dX9_remembers_97 : decode cX9_remembers 97 = .ok (.getfield 19, 3) := by decide +kernel
theorem dX9_remembers_100 : decode cX9_remembers 100 = .ok (.iconst 5, 1) := by decide +kernel
theorem dX9_remembers_101 : decode cX9_remembers 101 = .ok (.laload, 1) := by decide +kernel
theorem dX9_remembers_102 : decode cX9_remembers 102 = .ok (.bipush 14, 2) := by decide +kernel
theorem dX9_remembers_104 : decode cX9_remembers 104 = .ok (.lshl, 1) := by decide +kernel
theorem dX9_remembers_105 : decode cX9_remembers 105 = .ok (.lor, 1) := by decide +kernel
theorem dX9_remembers_106 : decode cX9_remembers 106 = .ok (.aload_n 0, 1) := by decide +kernel
theorem dX9_remembers_107 : decode cX9_remembers 107 = .ok (.getfield 19, 3) := by decide +kernel
theorem dX9_remembers_110 : decode cX9_remembers 110 = .ok (.bipush 6, 2) := by decide +kernel
theorem dX9_remembers_112 : decode cX9_remembers 112 = .ok (.laload, 1) := by decide +kernel
theorem dX9_remembers_113 : decode cX9_remembers 113 = .ok (.bipush 22, 2) := by decide +kernel
theorem dX9_remembers_115 : decode cX9_remembers 115 = .ok (.lshl, 1) := by decide +kernel
theorem dX9_remembers_116 : decode cX9_remembers 116 = .ok (.lor, 1) := by decide +kernel
theorem dX9_remembers_117 : decode cX9_remembers 117 = .ok (.aload_n 0, 1) := by decide +kernel
theorem dX9_remembers_118 : decode cX9_remembers 118 = .ok (.invokevirtual 108, 3) := by decide +kernel
theorem dX9_remembers_121 : decode cX9_remembers 121 = .ok (.ifCond .eq 9, 3) := by decide +kernel
theorem dX9_remembers_124 : decode cX9_remembers 124 = .ok (.ldc2_w 118, 3) := by decide +kernel
theorem dX9_remembers_127 : decode cX9_remembers 127 = .ok (.goto 4, 3) := by decide +kernel
theorem dX9_remembers_130 : decode cX9_remembers 130 = .ok (.lconst 0, 1) := by decide +kernel
theorem dX9_remembers_131 : decode cX9_remembers 131 = .ok (.lor, 1) := by decide +kernel
theorem dX9_remembers_132 : decode cX9_remembers 132 = .ok (.lastore, 1) := by decide +kernel
theorem dX9_remembers_133 : decode cX9_remembers 133 = .ok (.aload_n 0, 1) := by decide +kernel
theorem dX9_remembers_134 : decode cX9_remembers 134 = .ok (.getfield 19, 3) := by decide +kernel
theorem dX9_remembers_137 : decode cX9_remembers 137 = .ok (.iload_n 2, 1) := by decide +kernel
theorem dX9_remembers_138 : decode cX9_remembers 138 = .ok (.iconst 1, 1) := by decide +kernel
theorem dX9_remembers_139 : decode cX9_remembers 139 = .ok (.iadd, 1) := by decide +kernel
theorem dX9_remembers_140 : decode cX9_remembers 140 = .ok (.aload_n 0, 1) := by decide +kernel
theorem dX9_remembers_141 : decode cX9_remembers 141 = .ok (.invokevirtual 101, 3) := by decide +kernel
theorem dX9_remembers_144 : decode cX9_remembers 144 = .ok (.lastore, 1) := by decide +kernel
theorem dX9_remembers_145 : decode cX9_remembers 145 = .ok (.aload_n 0, 1) := by decide +kernel
theorem dX9_remembers_146 : decode cX9_remembers 146 = .ok (.getfield 19, 3) := by decide +kernel
theorem dX9_remembers_149 : decode cX9_remembers 149 = .ok (.iload_n 2, 1) := by decide +kernel
theorem dX9_remembers_150 : decode cX9_remembers 150 = .ok (.iconst 2, 1) := by decide +kernel
theorem dX9_remembers_151 : decode cX9_remembers 151 = .ok (.iadd, 1) := by decide +kernel
theorem dX9_remembers_152 : decode cX9_remembers 152 = .ok (.aload_n 0, 1) := by decide +kernel
theorem dX9_remembers_153 : decode cX9_remembers 153 = .ok (.invokevirtual 105, 3) := by decide +kernel
theorem dX9_remembers_156 : decode cX9_remembers 156 = .ok (.lastore, 1) := by decide +kernel
theorem dX9_remembers_157 : decode cX9_remembers 157 = .ok (.aload_n 0, 1) := by decide +kernel
theorem dX9_remembers_158 : decode cX9_remembers 158 = .ok (.getfield 19, 3) := by decide +kernel
theorem dX9_remembers_161 : decode cX9_remembers 161 = .ok (.bipush 9, 2) := by decide +kernel
theorem dX9_remembers_163 : decode cX9_remembers 163 = .ok (.dup2, 1) := by decide +kernel
theorem dX9_remembers_164 : decode cX9_remembers 164 = .ok (.laload, 1) := by decide +kernel
theorem dX9_remembers_165 : decode cX9_remembers 165 = .ok (.lconst 1, 1) := by decide +kernel
theorem dX9_remembers_166 : decode cX9_remembers 166 = .ok (.ladd, 1) := by decide +kernel
theorem dX9_remembers_167 : decode cX9_remembers 167 = .ok (.lastore, 1) := by decide +kernel
theorem dX9_remembers_168 : decode cX9_remembers 168 = .ok (.return_, 1) := by decide +kernel
theorem dX9_wayFrom_0 : decode cX9_wayFrom 0 = .ok (.aload_n 0, 1) := by decide +kernel
theorem dX9_wayFrom_1 : decode cX9_wayFrom 1 = .ok (.getfield 19, 3) := by decide +kernel
theorem dX9_wayFrom_4 : decode cX9_wayFrom 4 = .ok (.bipush 32, 2) := by decide +kernel
theorem dX9_wayFrom_6 : decode cX9_wayFrom 6 = .ok (.iconst 3, 1) := by decide +kernel
theorem dX9_wayFrom_7 : decode cX9_wayFrom 7 = .ok (.iload_n 1, 1) := by decide +kernel
theorem dX9_wayFrom_8 : decode cX9_wayFrom 8 = .ok (.imul, 1) := by decide +kernel
theorem dX9_wayFrom_9 : decode cX9_wayFrom 9 = .ok (.iadd, 1) := by decide +kernel
theorem dX9_wayFrom_10 : decode cX9_wayFrom 10 = .ok (.laload, 1) := by decide +kernel
theorem dX9_wayFrom_11 : decode cX9_wayFrom 11 = .ok (.ldc2_w 120, 3) := by decide +kernel
theorem dX9_wayFrom_14 : decode cX9_wayFrom 14 = .ok (.land, 1) := by decide +kernel
theorem dX9_wayFrom_15 : decode cX9_wayFrom 15 = .ok (.l2i, 1) := by decide +kernel
theorem dX9_wayFrom_16 : decode cX9_wayFrom 16 = .ok (.ireturn, 1) := by decide +kernel
theorem dX9_wayTo_0 : decode cX9_wayTo 0 = .ok (.aload_n 0, 1) := by decide +kernel
theorem dX9_wayTo_1 : decode cX9_wayTo 1 = .ok (.getfield 19, 3) := by decide +kernel
theorem dX9_wayTo_4 : decode cX9_wayTo 4 = .ok (.bipush 32, 2) := by decide +kernel
theorem dX9_wayTo_6 : decode cX9_wayTo 6 = .ok (.iconst 3, 1) := by decide +kernel
theorem dX9_wayTo_7 : decode cX9_wayTo 7 = .ok (.iload_n 1, 1) := by decide +kernel
theorem dX9_wayTo_8 : decode cX9_wayTo 8 = .ok (.imul, 1) := by decide +kernel
theorem dX9_wayTo_9 : decode cX9_wayTo 9 = .ok (.iadd, 1) := by decide +kernel
theorem dX9_wayTo_10 : decode cX9_wayTo 10 = .ok (.laload, 1) := by decide +kernel
theorem dX9_wayTo_11 : decode cX9_wayTo 11 = .ok (.iconst 3, 1) := by decide +kernel
theorem dX9_wayTo_12 : decode cX9_wayTo 12 = .ok (.lshr, 1) := by decide +kernel
theorem dX9_wayTo_13 : decode cX9_wayTo 13 = .ok (.ldc2_w 120, 3) := by decide +kernel
theorem dX9_wayTo_16 : decode cX9_wayTo 16 = .ok (.land, 1) := by decide +kernel
theorem dX9_wayTo_17 : decode cX9_wayTo 17 = .ok (.l2i, 1) := by decide +kernel
theorem dX9_wayTo_18 : decode cX9_wayTo 18 = .ok (.ireturn, 1) := by decide +kernel
theorem dX9_hears_0 : decode cX9_hears 0 = .ok (.iconst 0, 1) := by decide +kernel
theorem dX9_hears_1 : decode cX9_hears 1 = .ok (.istore_n 1, 1) := by decide +kernel
theorem dX9_hears_2 : decode cX9_hears 2 = .ok (.iload_n 1, 1) := by decide +kernel
theorem dX9_hears_3 : decode cX9_hears 3 = .ok (.aload_n 0, 1) := by decide +kernel
theorem dX9_hears_4 : decode cX9_hears 4 = .ok (.getfield 74, 3) := by decide +kernel
theorem dX9_hears_7 : decode cX9_hears 7 = .ok (.if_icmp .ge 106, 3) := by decide +kernel
theorem dX9_hears_10 : decode cX9_hears 10 = .ok (.aload_n 0, 1) := by decide +kernel
theorem dX9_hears_11 : decode cX9_hears 11 = .ok (.getfield 19, 3) := by decide +kernel
theorem dX9_hears_14 : decode cX9_hears 14 = .ok (.bipush 26, 2) := by decide +kernel
theorem dX9_hears_16 : decode cX9_hears 16 = .ok (.iload_n 1, 1) := by decide +kernel
theorem dX9_hears_17 : decode cX9_hears 17 = .ok (.iadd, 1) := by decide +kernel
theorem dX9_hears_18 : decode cX9_hears 18 = .ok (.laload, 1) := by decide +kernel
theorem dX9_hears_19 : decode cX9_hears 19 = .ok (.aload_n 0, 1) := by decide +kernel
theorem dX9_hears_20 : decode cX9_hears 20 = .ok (.getfield 19, 3) := by decide +kernel
theorem dX9_hears_23 : decode cX9_hears 23 = .ok (.iconst 2, 1) := by decide +kernel
theorem dX9_hears_24 : decode cX9_hears 24 = .ok (.laload, 1) := by decide +kernel
theorem dX9_hears_25 : decode cX9_hears 25 = .ok (.lcmp, 1) := by decide +kernel
theorem dX9_hears_26 : decode cX9_hears 26 = .ok (.ifCond .ne 81, 3) := by decide +kernel
theorem dX9_hears_29 : decode cX9_hears 29 = .ok (.aload_n 0, 1) := by decide +kernel
theorem dX9_hears_30 : decode cX9_hears 30 = .ok (.getfield 19, 3) := by decide +kernel
theorem dX9_hears_33 : decode cX9_hears 33 = .ok (.bipush 7, 2) := by decide +kernel
theorem dX9_hears_35 : decode cX9_hears 35 = .ok (.laload, 1) := by decide +kernel
theorem dX9_hears_36 : decode cX9_hears 36 = .ok (.iload_n 1, 1) := by decide +kernel
theorem dX9_hears_37 : decode cX9_hears 37 = .ok (.invokestatic 85, 3) := by decide +kernel
theorem dX9_hears_40 : decode cX9_hears 40 = .ok (.ifCond .ne 67, 3) := by decide +kernel
theorem dX9_hears_43 : decode cX9_hears 43 = .ok (.aload_n 0, 1) := by decide +kernel
theorem dX9_hears_44 : decode cX9_hears 44 = .ok (.getfield 19, 3) := by decide +kernel
theorem dX9_hears_47 : decode cX9_hears 47 = .ok (.bipush 7, 2) := by decide +kernel
theorem dX9_hears_49 : decode cX9_hears 49 = .ok (.dup2, 1) := by decide +kernel
theorem dX9_hears_50 : decode cX9_hears 50 = .ok (.laload, 1) := by decide +kernel
theorem dX9_hears_51 : decode cX9_hears 51 = .ok (.lconst 1, 1) := by decide +kernel
theorem dX9_hears_52 : decode cX9_hears 52 = .ok (.iload_n 1, 1) := by decide +kernel
theorem dX9_hears_53 : decode cX9_hears 53 = .ok (.lshl, 1) := by decide +kernel
theorem dX9_hears_54 : decode cX9_hears 54 = .ok (.lor, 1) := by decide +kernel
theorem dX9_hears_55 : decode cX9_hears 55 = .ok (.lastore, 1) := by decide +kernel
theorem dX9_hears_56 : decode cX9_hears 56 = .ok (.aload_n 0, 1) := by decide +kernel
theorem dX9_hears_57 : decode cX9_hears 57 = .ok (.getfield 19, 3) := by decide +kernel
theorem dX9_hears_60 : decode cX9_hears 60 = .ok (.bipush 8, 2) := by decide +kernel
theorem dX9_hears_62 : decode cX9_hears 62 = .ok (.dup2, 1) := by decide +kernel
theorem dX9_hears_63 : decode cX9_hears 63 = .ok (.laload, 1) := by decide +kernel
theorem dX9_hears_64 : decode cX9_hears 64 = .ok (.aload_n 0, 1) := by decide +kernel
theorem dX9_hears_65 : decode cX9_hears 65 = .ok (.getfield 16, 3) := by decide +kernel
theorem dX9_hears_68 : decode cX9_hears 68 = .ok (.iload_n 1, 1) := by decide +kernel
theorem dX9_hears_69 : decode cX9_hears 69 = .ok (.iaload, 1) := by decide +kernel
theorem dX9_hears_70 : decode cX9_hears 70 = .ok (.i2l, 1) := by decide +kernel
theorem dX9_hears_71 : decode cX9_hears 71 = .ok (.ladd, 1) := by decide +kernel
theorem dX9_hears_72 : decode cX9_hears 72 = .ok (.lastore, 1) := by decide +kernel
theorem dX9_hears_73 : decode cX9_hears 73 = .ok (.aload_n 0, 1) := by decide +kernel
theorem dX9_hears_74 : decode cX9_hears 74 = .ok (.getfield 19, 3) := by decide +kernel
theorem dX9_hears_77 : decode cX9_hears 77 = .ok (.bipush 8, 2) := by decide +kernel
theorem dX9_hears_79 : decode cX9_hears 79 = .ok (.aload_n 0, 1) := by decide +kernel
theorem dX9_hears_80 : decode cX9_hears 80 = .ok (.getfield 19, 3) := by decide +kernel
theorem dX9_hears_83 : decode cX9_hears 83 = .ok (.bipush 8, 2) := by decide +kernel
theorem dX9_hears_85 : decode cX9_hears 85 = .ok (.laload, 1) := by decide +kernel
theorem dX9_hears_86 : decode cX9_hears 86 = .ok (.ldc2_w 122, 3) := by decide +kernel
theorem dX9_hears_89 : decode cX9_hears 89 = .ok (.lcmp, 1) := by decide +kernel
theorem dX9_hears_90 : decode cX9_hears 90 = .ok (.ifCond .le 9, 3) := by decide +kernel
theorem dX9_hears_93 : decode cX9_hears 93 = .ok (.ldc2_w 122, 3) := by decide +kernel
theorem dX9_hears_96 : decode cX9_hears 96 = .ok (.goto 10, 3) := by decide +kernel
theorem dX9_hears_99 : decode cX9_hears 99 = .ok (.aload_n 0, 1) := by decide +kernel
theorem dX9_hears_100 : decode cX9_hears 100 = .ok (.getfield 19, 3) := by decide +kernel
theorem dX9_hears_103 : decode cX9_hears 103 = .ok (.bipush 8, 2) := by decide +kernel
theorem dX9_hears_105 : decode cX9_hears 105 = .ok (.laload, 1) := by decide +kernel
theorem dX9_hears_106 : decode cX9_hears 106 = .ok (.lastore, 1) := by decide +kernel
theorem dX9_hears_107 : decode cX9_hears 107 = .ok (.iinc 1 1, 3) := by decide +kernel
theorem dX9_hears_110 : decode cX9_hears 110 = .ok (.goto (-108), 3) := by decide +kernel
theorem dX9_hears_113 : decode cX9_hears 113 = .ok (.return_, 1) := by decide +kernel
theorem dX9_goesBy_0 : decode cX9_goesBy 0 = .ok (.aload_n 0, 1) := by decide +kernel
theorem dX9_goesBy_1 : decode cX9_goesBy 1 = .ok (.getfield 19, 3) := by decide +kernel
theorem dX9_goesBy_4 : decode cX9_goesBy 4 = .ok (.bipush 18, 2) := by decide +kernel
theorem dX9_goesBy_6 : decode cX9_goesBy 6 = .ok (.aload_n 0, 1) := by decide +kernel
theorem dX9_goesBy_7 : decode cX9_goesBy 7 = .ok (.iconst 2, 1) := by decide +kernel
theorem dX9_goesBy_8 : decode cX9_goesBy 8 = .ok (.invokevirtual 97, 3) := by decide +kernel
theorem dX9_goesBy_11 : decode cX9_goesBy 11 = .ok (.iadd, 1) := by decide +kernel
theorem dX9_goesBy_12 : decode cX9_goesBy 12 = .ok (.dup2, 1) := by decide +kernel
theorem dX9_goesBy_13 : decode cX9_goesBy 13 = .ok (.laload, 1) := by decide +kernel
theorem dX9_goesBy_14 : decode cX9_goesBy 14 = .ok (.lconst 1, 1) := by decide +kernel
theorem dX9_goesBy_15 : decode cX9_goesBy 15 = .ok (.ladd, 1) := by decide +kernel
theorem dX9_goesBy_16 : decode cX9_goesBy 16 = .ok (.lastore, 1) := by decide +kernel
theorem dX9_goesBy_17 : decode cX9_goesBy 17 = .ok (.aload_n 0, 1) := by decide +kernel
theorem dX9_goesBy_18 : decode cX9_goesBy 18 = .ok (.invokevirtual 124, 3) := by decide +kernel
theorem dX9_goesBy_21 : decode cX9_goesBy 21 = .ok (.aload_n 0, 1) := by decide +kernel
theorem dX9_goesBy_22 : decode cX9_goesBy 22 = .ok (.aload_n 0, 1) := by decide +kernel
theorem dX9_goesBy_23 : decode cX9_goesBy 23 = .ok (.iconst 0, 1) := by decide +kernel
theorem dX9_goesBy_24 : decode cX9_goesBy 24 = .ok (.invokevirtual 97, 3) := by decide +kernel
theorem dX9_goesBy_27 : decode cX9_goesBy 27 = .ok (.aload_n 0, 1) := by decide +kernel
theorem dX9_goesBy_28 : decode cX9_goesBy 28 = .ok (.getfield 19, 3) := by decide +kernel
theorem dX9_goesBy_31 : decode cX9_goesBy 31 = .ok (.iconst 4, 1) := by decide +kernel
theorem dX9_goesBy_32 : decode cX9_goesBy 32 = .ok (.laload, 1) := by decide +kernel
theorem dX9_goesBy_33 : decode cX9_goesBy 33 = .ok (.invokevirtual 127, 3) := by decide +kernel
theorem dX9_goesBy_36 : decode cX9_goesBy 36 = .ok (.istore_n 1, 1) := by decide +kernel
theorem dX9_goesBy_37 : decode cX9_goesBy 37 = .ok (.iload_n 1, 1) := by decide +kernel
theorem dX9_goesBy_38 : decode cX9_goesBy 38 = .ok (.aload_n 0, 1) := by decide +kernel
theorem dX9_goesBy_39 : decode cX9_goesBy 39 = .ok (.iconst 2, 1) := by decide +kernel
theorem dX9_goesBy_40 : decode cX9_goesBy 40 = .ok (.invokevirtual 97, 3) := by decide +kernel
theorem dX9_goesBy_43 : decode cX9_goesBy 43 = .ok (.if_icmp .eq 43, 3) := by decide +kernel
theorem dX9_goesBy_46 : decode cX9_goesBy 46 = .ok (.aload_n 0, 1) := by decide +kernel
theorem dX9_goesBy_47 : decode cX9_goesBy 47 = .ok (.iload_n 1, 1) := by decide +kernel
theorem dX9_goesBy_48 : decode cX9_goesBy 48 = .ok (.invokevirtual 131, 3) := by decide +kernel
theorem dX9_goesBy_51 : decode cX9_goesBy 51 = .ok (.aload_n 0, 1) := by decide +kernel
theorem dX9_goesBy_52 : decode cX9_goesBy 52 = .ok (.getfield 19, 3) := by decide +kernel
theorem dX9_goesBy_55 : decode cX9_goesBy 55 = .ok (.iconst 2, 1) := by decide +kernel
theorem dX9_goesBy_56 : decode cX9_goesBy 56 = .ok (.iload_n 1, 1) := by decide +kernel
theorem dX9_goesBy_57 : decode cX9_goesBy 57 = .ok (.i2l, 1) := by decide +kernel
theorem dX9_goesBy_58 : decode cX9_goesBy 58 = .ok (.lastore, 1) := by decide +kernel
theorem dX9_goesBy_59 : decode cX9_goesBy 59 = .ok (.aload_n 0, 1) := by decide +kernel
theorem dX9_goesBy_60 : decode cX9_goesBy 60 = .ok (.getfield 19, 3) := by decide +kernel
theorem dX9_goesBy_63 : decode cX9_goesBy 63 = .ok (.iconst 3, 1) := by decide +kernel
theorem dX9_goesBy_64 : decode cX9_goesBy 64 = .ok (.dup2, 1) := by decide +kernel
theorem dX9_goesBy_65 : decode cX9_goesBy 65 = .ok (.laload, 1) := by decide +kernel
theorem dX9_goesBy_66 : decode cX9_goesBy 66 = .ok (.aload_n 0, 1) := by decide +kernel
theorem dX9_goesBy_67 : decode cX9_goesBy 67 = .ok (.getfield 19, 3) := by decide +kernel
theorem dX9_goesBy_70 : decode cX9_goesBy 70 = .ok (.iconst 3, 1) := by decide +kernel
theorem dX9_goesBy_71 : decode cX9_goesBy 71 = .ok (.laload, 1) := by decide +kernel
theorem dX9_goesBy_72 : decode cX9_goesBy 72 = .ok (.ldc2_w 135, 3) := by decide +kernel
theorem dX9_goesBy_75 : decode cX9_goesBy 75 = .ok (.lcmp, 1) := by decide +kernel
theorem dX9_goesBy_76 : decode cX9_goesBy 76 = .ok (.ifCond .ge 7, 3) := by decide +kernel
theorem dX9_goesBy_79 : decode cX9_goesBy 79 = .ok (.lconst 1, 1) := by decide +kernel
theorem dX9_goesBy_80 : decode cX9_goesBy 80 = .ok (.goto 4, 3) := by decide +kernel
theorem dX9_goesBy_83 : decode cX9_goesBy 83 = .ok (.lconst 0, 1) := by decide +kernel
theorem dX9_goesBy_84 : decode cX9_goesBy 84 = .ok (.ladd, 1) := by decide +kernel
theorem dX9_goesBy_85 : decode cX9_goesBy 85 = .ok (.lastore, 1) := by decide +kernel
theorem dX9_goesBy_86 : decode cX9_goesBy 86 = .ok (.aload_n 0, 1) := by decide +kernel
theorem dX9_goesBy_87 : decode cX9_goesBy 87 = .ok (.getfield 19, 3) := by decide +kernel
theorem dX9_goesBy_90 : decode cX9_goesBy 90 = .ok (.iconst 1, 1) := by decide +kernel
theorem dX9_goesBy_91 : decode cX9_goesBy 91 = .ok (.dup2, 1) := by decide +kernel
theorem dX9_goesBy_92 : decode cX9_goesBy 92 = .ok (.laload, 1) := by decide +kernel
theorem dX9_goesBy_93 : decode cX9_goesBy 93 = .ok (.lconst 1, 1) := by decide +kernel
theorem dX9_goesBy_94 : decode cX9_goesBy 94 = .ok (.ladd, 1) := by decide +kernel
theorem dX9_goesBy_95 : decode cX9_goesBy 95 = .ok (.lastore, 1) := by decide +kernel
theorem dX9_goesBy_96 : decode cX9_goesBy 96 = .ok (.return_, 1) := by decide +kernel
theorem dX9_goesOn_0 : decode cX9_goesOn 0 = .ok (.iconst 0, 1) := by decide +kernel
theorem dX9_goesOn_1 : decode cX9_goesOn 1 = .ok (.istore_n 2, 1) := by decide +kernel
theorem dX9_goesOn_2 : decode cX9_goesOn 2 = .ok (.iload_n 2, 1) := by decide +kernel
theorem dX9_goesOn_3 : decode cX9_goesOn 3 = .ok (.iload_n 1, 1) := by decide +kernel
theorem dX9_goesOn_4 : decode cX9_goesOn 4 = .ok (.if_icmp .ge 13, 3) := by decide +kernel
theorem dX9_goesOn_7 : decode cX9_goesOn 7 = .ok (.aload_n 0, 1) := by decide +kernel
theorem dX9_goesOn_8 : decode cX9_goesOn 8 = .ok (.invokevirtual 137, 3) := by decide +kernel
theorem dX9_goesOn_11 : decode cX9_goesOn 11 = .ok (.iinc 2 1, 3) := by decide +kernel
theorem dX9_goesOn_14 : decode cX9_goesOn 14 = .ok (.goto (-12), 3) := by decide +kernel
theorem dX9_goesOn_17 : decode cX9_goesOn 17 = .ok (.return_, 1) := by decide +kernel
theorem dX9_feed_0 : decode cX9_feed 0 = .ok (.iload_n 1, 1) := by decide +kernel
theorem dX9_feed_1 : decode cX9_feed 1 = .ok (.i2l, 1) := by decide +kernel
theorem dX9_feed_2 : decode cX9_feed 2 = .ok (.lconst 0, 1) := by decide +kernel
theorem dX9_feed_3 : decode cX9_feed 3 = .ok (.ldc2_w 140, 3) := by decide +kernel
theorem dX9_feed_6 : decode cX9_feed 6 = .ok (.invokestatic 67, 3) := by decide +kernel
theorem dX9_feed_9 : decode cX9_feed 9 = .ok (.ifCond .ne 6, 3) := by decide +kernel
theorem dX9_feed_12 : decode cX9_feed 12 = .ok (.ldc 142, 2) := by decide +kernel
theorem dX9_feed_14 : decode cX9_feed 14 = .ok (.ireturn, 1) := by decide +kernel
theorem dX9_feed_15 : decode cX9_feed 15 = .ok (.aload_n 0, 1) := by decide +kernel
theorem dX9_feed_16 : decode cX9_feed 16 = .ok (.getfield 143, 3) := by decide +kernel
theorem dX9_feed_19 : decode cX9_feed 19 = .ok (.sipush 240, 3) := by decide +kernel
theorem dX9_feed_22 : decode cX9_feed 22 = .ok (.if_icmp .ne 6, 3) := by decide +kernel
theorem dX9_feed_25 : decode cX9_feed 25 = .ok (.ldc 146, 2) := by decide +kernel
theorem dX9_feed_27 : decode cX9_feed 27 = .ok (.ireturn, 1) := by decide +kernel
theorem dX9_feed_28 : decode cX9_feed 28 = .ok (.aload_n 0, 1) := by decide +kernel
theorem dX9_feed_29 : decode cX9_feed 29 = .ok (.getfield 23, 3) := by decide +kernel
theorem dX9_feed_32 : decode cX9_feed 32 = .ok (.aload_n 0, 1) := by decide +kernel
theorem dX9_feed_33 : decode cX9_feed 33 = .ok (.getfield 143, 3) := by decide +kernel
theorem dX9_feed_36 : decode cX9_feed 36 = .ok (.iload_n 1, 1) := by decide +kernel
theorem dX9_feed_37 : decode cX9_feed 37 = .ok (.iastore, 1) := by decide +kernel
theorem dX9_feed_38 : decode cX9_feed 38 = .ok (.aload_n 0, 1) := by decide +kernel
theorem dX9_feed_39 : decode cX9_feed 39 = .ok (.dup, 1) := by decide +kernel
theorem dX9_feed_40 : decode cX9_feed 40 = .ok (.getfield 143, 3) := by decide +kernel
theorem dX9_feed_43 : decode cX9_feed 43 = .ok (.iconst 1, 1) := by decide +kernel
theorem dX9_feed_44 : decode cX9_feed 44 = .ok (.iadd, 1) := by decide +kernel
theorem dX9_feed_45 : decode cX9_feed 45 = .ok (.putfield 143, 3) := by decide +kernel
theorem dX9_feed_48 : decode cX9_feed 48 = .ok (.aload_n 0, 1) := by decide +kernel
theorem dX9_feed_49 : decode cX9_feed 49 = .ok (.getfield 143, 3) := by decide +kernel
theorem dX9_feed_52 : decode cX9_feed 52 = .ok (.ireturn, 1) := by decide +kernel
theorem dX9_here_0 : decode cX9_here 0 = .ok (.aload_n 0, 1) := by decide +kernel
theorem dX9_here_1 : decode cX9_here 1 = .ok (.getfield 147, 3) := by decide +kernel
theorem dX9_here_4 : decode cX9_here 4 = .ok (.aload_n 0, 1) := by decide +kernel
theorem dX9_here_5 : decode cX9_here 5 = .ok (.getfield 143, 3) := by decide +kernel
theorem dX9_here_8 : decode cX9_here 8 = .ok (.if_icmp .ge 30, 3) := by decide +kernel
theorem dX9_here_11 : decode cX9_here 11 = .ok (.aload_n 0, 1) := by decide +kernel
theorem dX9_here_12 : decode cX9_here 12 = .ok (.getfield 23, 3) := by decide +kernel
theorem dX9_here_15 : decode cX9_here 15 = .ok (.aload_n 0, 1) := by decide +kernel
theorem dX9_here_16 : decode cX9_here 16 = .ok (.getfield 147, 3) := by decide +kernel
theorem dX9_here_19 : decode cX9_here 19 = .ok (.iaload, 1) := by decide +kernel
theorem dX9_here_20 : decode cX9_here 20 = .ok (.bipush 32, 2) := by decide +kernel
theorem dX9_here_22 : decode cX9_here 22 = .ok (.if_icmp .ne 16, 3) := by decide +kernel
theorem dX9_here_25 : decode cX9_here 25 = .ok (.aload_n 0, 1) := by decide +kernel
theorem dX9_here_26 : decode cX9_here 26 = .ok (.dup, 1) := by decide +kernel
theorem dX9_here_27 : decode cX9_here 27 = .ok (.getfield 147, 3) := by decide +kernel
theorem dX9_here_30 : decode cX9_here 30 = .ok (.iconst 1, 1) := by decide +kernel
theorem dX9_here_31 : decode cX9_here 31 = .ok (.iadd, 1) := by decide +kernel
theorem dX9_here_32 : decode cX9_here 32 = .ok (.putfield 147, 3) := by decide +kernel
theorem dX9_here_35 : decode cX9_here 35 = .ok (.goto (-35), 3) := by decide +kernel
theorem dX9_here_38 : decode cX9_here 38 = .ok (.aload_n 0, 1) := by decide +kernel
theorem dX9_here_39 : decode cX9_here 39 = .ok (.getfield 147, 3) := by decide +kernel
theorem dX9_here_42 : decode cX9_here 42 = .ok (.aload_n 0, 1) := by decide +kernel
theorem dX9_here_43 : decode cX9_here 43 = .ok (.getfield 143, 3) := by decide +kernel
theorem dX9_here_46 : decode cX9_here 46 = .ok (.if_icmp .ge 15, 3) := by decide +kernel
theorem dX9_here_49 : decode cX9_here 49 = .ok (.aload_n 0, 1) := by decide +kernel
theorem dX9_here_50 : decode cX9_here 50 = .ok (.getfield 23, 3) := by decide +kernel
theorem dX9_here_53 : decode cX9_here 53 = .ok (.aload_n 0, 1) := by decide +kernel
theorem dX9_here_54 : decode cX9_here 54 = .ok (.getfield 147, 3) := by decide +kernel
theorem dX9_here_57 : decode cX9_here 57 = .ok (.iaload, 1) := by decide +kernel
theorem dX9_here_58 : decode cX9_here 58 = .ok (.goto 4, 3) := by decide +kernel
theorem dX9_here_61 : decode cX9_here 61 = .ok (.iconst (-1), 1) := by decide +kernel
theorem dX9_here_62 : decode cX9_here 62 = .ok (.ireturn, 1) := by decide +kernel
theorem dX9_isFigure_0 : decode cX9_isFigure 0 = .ok (.iload_n 0, 1) := by decide +kernel
theorem dX9_isFigure_1 : decode cX9_isFigure 1 = .ok (.i2l, 1) := by decide +kernel
theorem dX9_isFigure_2 : decode cX9_isFigure 2 = .ok (.ldc2_w 150, 3) := by decide +kernel
theorem dX9_isFigure_5 : decode cX9_isFigure 5 = .ok (.ldc2_w 152, 3) := by decide +kernel
theorem dX9_isFigure_8 : decode cX9_isFigure 8 = .ok (.invokestatic 67, 3) := by decide +kernel
theorem dX9_isFigure_11 : decode cX9_isFigure 11 = .ok (.ireturn, 1) := by decide +kernel
theorem dX9_faults_0 : decode cX9_faults 0 = .ok (.aload_n 0, 1) := by decide +kernel
theorem dX9_faults_1 : decode cX9_faults 1 = .ok (.aload_n 0, 1) := by decide +kernel
theorem dX9_faults_2 : decode cX9_faults 2 = .ok (.getfield 154, 3) := by decide +kernel
theorem dX9_faults_5 : decode cX9_faults 5 = .ok (.ifCond .ne 7, 3) := by decide +kernel
theorem dX9_faults_8 : decode cX9_faults 8 = .ok (.iload_n 1, 1) := by decide +kernel
theorem dX9_faults_9 : decode cX9_faults 9 = .ok (.goto 7, 3) := by decide +kernel
theorem dX9_faults_12 : decode cX9_faults 12 = .ok (.aload_n 0, 1) := by decide +kernel
theorem dX9_faults_13 : decode cX9_faults 13 = .ok (.getfield 154, 3) := by decide +kernel
theorem dX9_faults_16 : decode cX9_faults 16 = .ok (.putfield 154, 3) := by decide +kernel
theorem dX9_faults_19 : decode cX9_faults 19 = .ok (.return_, 1) := by decide +kernel
theorem dX9_number_0 : decode cX9_number 0 = .ok (.aload_n 0, 1) := by decide +kernel
theorem dX9_number_1 : decode cX9_number 1 = .ok (.getfield 154, 3) := by decide +kernel
theorem dX9_number_4 : decode cX9_number 4 = .ok (.ifCond .le 5, 3) := by decide +kernel
theorem dX9_number_7 : decode cX9_number 7 = .ok (.iconst 0, 1) := by decide +kernel
theorem dX9_number_8 : decode cX9_number 8 = .ok (.ireturn, 1) := by decide +kernel
theorem dX9_number_9 : decode cX9_number 9 = .ok (.aload_n 0, 1) := by decide +kernel
theorem dX9_number_10 : decode cX9_number 10 = .ok (.invokevirtual 157, 3) := by decide +kernel
theorem dX9_number_13 : decode cX9_number 13 = .ok (.istore_n 2, 1) := by decide +kernel
theorem dX9_number_14 : decode cX9_number 14 = .ok (.iload_n 2, 1) := by decide +kernel
theorem dX9_number_15 : decode cX9_number 15 = .ok (.invokestatic 161, 3) := by decide +kernel
theorem dX9_number_18 : decode cX9_number 18 = .ok (.ifCond .ne 10, 3) := by decide +kernel
theorem dX9_number_21 : decode cX9_number 21 = .ok (.aload_n 0, 1) := by decide +kernel
theorem dX9_number_22 : decode cX9_number 22 = .ok (.iconst 1, 1) := by decide +kernel
theorem dX9_number_23 : decode cX9_number 23 = .ok (.invokevirtual 165, 3) := by decide +kernel
theorem dX9_number_26 : decode cX9_number 26 = .ok (.iconst 0, 1) := by decide +kernel
theorem dX9_number_27 : decode cX9_number 27 = .ok (.ireturn, 1) := by decide +kernel
theorem dX9_number_28 : decode cX9_number 28 = .ok (.aload_n 0, 1) := by decide +kernel
theorem dX9_number_29 : decode cX9_number 29 = .ok (.getfield 147, 3) := by decide +kernel
theorem dX9_number_32 : decode cX9_number 32 = .ok (.istore_n 3, 1) := by decide +kernel
theorem dX9_number_33 : decode cX9_number 33 = .ok (.iconst 0, 1) := by decide +kernel
theorem dX9_number_34 : decode cX9_number 34 = .ok (.istore 4, 2) := by decide +kernel
theorem dX9_number_36 : decode cX9_number 36 = .ok (.aload_n 0, 1) := by decide +kernel
theorem dX9_number_37 : decode cX9_number 37 = .ok (.getfield 147, 3) := by decide +kernel
theorem dX9_number_40 : decode cX9_number 40 = .ok (.aload_n 0, 1) := by decide +kernel
theorem dX9_number_41 : decode cX9_number 41 = .ok (.getfield 143, 3) := by decide +kernel
theorem dX9_number_44 : decode cX9_number 44 = .ok (.if_icmp .ge 66, 3) := by decide +kernel
theorem dX9_number_47 : decode cX9_number 47 = .ok (.aload_n 0, 1) := by decide +kernel
theorem dX9_number_48 : decode cX9_number 48 = .ok (.getfield 23, 3) := by decide +kernel
theorem dX9_number_51 : decode cX9_number 51 = .ok (.aload_n 0, 1) := by decide +kernel
theorem dX9_number_52 : decode cX9_number 52 = .ok (.getfield 147, 3) := by decide +kernel
theorem dX9_number_55 : decode cX9_number 55 = .ok (.iaload, 1) := by decide +kernel
theorem dX9_number_56 : decode cX9_number 56 = .ok (.invokestatic 161, 3) := by decide +kernel
theorem dX9_number_59 : decode cX9_number 59 = .ok (.ifCond .eq 51, 3) := by decide +kernel
theorem dX9_number_62 : decode cX9_number 62 = .ok (.aload_n 0, 1) := by decide +kernel
theorem dX9_number_63 : decode cX9_number 63 = .ok (.getfield 147, 3) := by decide +kernel
theorem dX9_number_66 : decode cX9_number 66 = .ok (.iload_n 3, 1) := by decide +kernel
theorem dX9_number_67 : decode cX9_number 67 = .ok (.isub, 1) := by decide +kernel
theorem dX9_number_68 : decode cX9_number 68 = .ok (.iconst 4, 1) := by decide +kernel
theorem dX9_number_69 : decode cX9_number 69 = .ok (.if_icmp .ge 24, 3) := by decide +kernel
theorem dX9_number_72 : decode cX9_number 72 = .ok (.bipush 10, 2) := by decide +kernel
theorem dX9_number_74 : decode cX9_number 74 = .ok (.iload 4, 2) := by decide +kernel
theorem dX9_number_76 : decode cX9_number 76 = .ok (.imul, 1) := by decide +kernel
theorem dX9_number_77 : decode cX9_number 77 = .ok (.aload_n 0, 1) := by decide +kernel
theorem dX9_number_78 : decode cX9_number 78 = .ok (.getfield 23, 3) := by decide +kernel
theorem dX9_number_81 : decode cX9_number 81 = .ok (.aload_n 0, 1) := by decide +kernel
theorem dX9_number_82 : decode cX9_number 82 = .ok (.getfield 147, 3) := by decide +kernel
theorem dX9_number_85 : decode cX9_number 85 = .ok (.iaload, 1) := by decide +kernel
theorem dX9_number_86 : decode cX9_number 86 = .ok (.iadd, 1) := by decide +kernel
theorem dX9_number_87 : decode cX9_number 87 = .ok (.bipush 48, 2) := by decide +kernel
theorem dX9_number_89 : decode cX9_number 89 = .ok (.isub, 1) := by decide +kernel
theorem dX9_number_90 : decode cX9_number 90 = .ok (.goto 5, 3) := by decide +kernel
theorem dX9_number_93 : decode cX9_number 93 = .ok (.iload 4, 2) := by decide +kernel
theorem dX9_number_95 : decode cX9_number 95 = .ok (.istore 4, 2) := by decide +kernel
theorem dX9_number_97 : decode cX9_number 97 = .ok (.aload_n 0, 1) := by decide +kernel
theorem dX9_number_98 : decode cX9_number 98 = .ok (.dup, 1) := by decide +kernel
theorem dX9_number_99 : decode cX9_number 99 = .ok (.getfield 147, 3) := by decide +kernel
theorem dX9_number_102 : decode cX9_number 102 = .ok (.iconst 1, 1) := by decide +kernel
theorem dX9_number_103 : decode cX9_number 103 = .ok (.iadd, 1) := by decide +kernel
theorem dX9_number_104 : decode cX9_number 104 = .ok (.putfield 147, 3) := by decide +kernel
theorem dX9_number_107 : decode cX9_number 107 = .ok (.goto (-71), 3) := by decide +kernel
theorem dX9_number_110 : decode cX9_number 110 = .ok (.aload_n 0, 1) := by decide +kernel
theorem dX9_number_111 : decode cX9_number 111 = .ok (.getfield 147, 3) := by decide +kernel
theorem dX9_number_114 : decode cX9_number 114 = .ok (.iload_n 3, 1) := by decide +kernel
theorem dX9_number_115 : decode cX9_number 115 = .ok (.isub, 1) := by decide +kernel
theorem dX9_number_116 : decode cX9_number 116 = .ok (.iconst 3, 1) := by decide +kernel
theorem dX9_number_117 : decode cX9_number 117 = .ok (.if_icmp .gt 9, 3) := by decide +kernel
theorem dX9_number_120 : decode cX9_number 120 = .ok (.iload 4, 2) := by decide +kernel
theorem dX9_number_122 : decode cX9_number 122 = .ok (.iload_n 1, 1) := by decide +kernel
theorem dX9_number_123 : decode cX9_number 123 = .ok (.if_icmp .le 13, 3) := by decide +kernel
theorem dX9_number_126 : decode cX9_number 126 = .ok (.aload_n 0, 1) := by decide +kernel
theorem dX9_number_127 : decode cX9_number 127 = .ok (.iconst 2, 1) := by decide +kernel
theorem dX9_number_128 : decode cX9_number 128 = .ok (.invokevirtual 165, 3) := by decide +kernel
theorem dX9_number_131 : decode cX9_number 131 = .ok (.aload_n 0, 1) := by decide +kernel
theorem dX9_number_132 : decode cX9_number 132 = .ok (.iload_n 3, 1) := by decide +kernel
theorem dX9_number_133 : decode cX9_number 133 = .ok (.putfield 147, 3) := by decide +kernel
theorem dX9_number_136 : decode cX9_number 136 = .ok (.iload 4, 2) := by decide +kernel
theorem dX9_number_138 : decode cX9_number 138 = .ok (.ireturn, 1) := by decide +kernel
theorem dX9_ends_0 : decode cX9_ends 0 = .ok (.aload_n 0, 1) := by decide +kernel
theorem dX9_ends_1 : decode cX9_ends 1 = .ok (.getfield 154, 3) := by decide +kernel
theorem dX9_ends_4 : decode cX9_ends 4 = .ok (.ifCond .ne 17, 3) := by decide +kernel
theorem dX9_ends_7 : decode cX9_ends 7 = .ok (.aload_n 0, 1) := by decide +kernel
theorem dX9_ends_8 : decode cX9_ends 8 = .ok (.invokevirtual 157, 3) := by decide +kernel
theorem dX9_ends_11 : decode cX9_ends 11 = .ok (.bipush 59, 2) := by decide +kernel
theorem dX9_ends_13 : decode cX9_ends 13 = .ok (.if_icmp .eq 8, 3) := by decide +kernel
theorem dX9_ends_16 : decode cX9_ends 16 = .ok (.aload_n 0, 1) := by decide +kernel
theorem dX9_ends_17 : decode cX9_ends 17 = .ok (.iconst 1, 1) := by decide +kernel
theorem dX9_ends_18 : decode cX9_ends 18 = .ok (.invokevirtual 165, 3) := by decide +kernel
theorem dX9_ends_21 : decode cX9_ends 21 = .ok (.aload_n 0, 1) := by decide +kernel
theorem dX9_ends_22 : decode cX9_ends 22 = .ok (.dup, 1) := by decide +kernel
theorem dX9_ends_23 : decode cX9_ends 23 = .ok (.getfield 147, 3) := by decide +kernel
theorem dX9_ends_26 : decode cX9_ends 26 = .ok (.aload_n 0, 1) := by decide +kernel
theorem dX9_ends_27 : decode cX9_ends 27 = .ok (.getfield 154, 3) := by decide +kernel
theorem dX9_ends_30 : decode cX9_ends 30 = .ok (.ifCond .ne 7, 3) := by decide +kernel
theorem dX9_ends_33 : decode cX9_ends 33 = .ok (.iconst 1, 1) := by decide +kernel
theorem dX9_ends_34 : decode cX9_ends 34 = .ok (.goto 4, 3) := by decide +kernel
theorem dX9_ends_37 : decode cX9_ends 37 = .ok (.iconst 0, 1) := by decide +kernel
theorem dX9_ends_38 : decode cX9_ends 38 = .ok (.iadd, 1) := by decide +kernel
theorem dX9_ends_39 : decode cX9_ends 39 = .ok (.putfield 147, 3) := by decide +kernel
theorem dX9_ends_42 : decode cX9_ends 42 = .ok (.return_, 1) := by decide +kernel
theorem dX9_readRule_0 : decode cX9_readRule 0 = .ok (.aload_n 0, 1) := by decide +kernel
theorem dX9_readRule_1 : decode cX9_readRule 1 = .ok (.getfield 26, 3) := by decide +kernel
theorem dX9_readRule_4 : decode cX9_readRule 4 = .ok (.iconst 0, 1) := by decide +kernel
theorem dX9_readRule_5 : decode cX9_readRule 5 = .ok (.iaload, 1) := by decide +kernel
theorem dX9_readRule_6 : decode cX9_readRule 6 = .ok (.iconst (-1), 1) := by decide +kernel
theorem dX9_readRule_7 : decode cX9_readRule 7 = .ok (.if_icmp .eq 9, 3) := by decide +kernel
theorem dX9_readRule_10 : decode cX9_readRule 10 = .ok (.aload_n 0, 1) := by decide +kernel
theorem dX9_readRule_11 : decode cX9_readRule 11 = .ok (.iconst 3, 1) := by decide +kernel
theorem dX9_readRule_12 : decode cX9_readRule 12 = .ok (.invokevirtual 165, 3) := by decide +kernel
theorem dX9_readRule_15 : decode cX9_readRule 15 = .ok (.return_, 1) := by decide +kernel
theorem dX9_readRule_16 : decode cX9_readRule 16 = .ok (.aload_n 0, 1) := by decide +kernel
theorem dX9_readRule_17 : decode cX9_readRule 17 = .ok (.dup, 1) := by decide +kernel
theorem dX9_readRule_18 : decode cX9_readRule 18 = .ok (.getfield 147, 3) := by decide +kernel
theorem dX9_readRule_21 : decode cX9_readRule 21 = .ok (.iconst 1, 1) := by decide +kernel
theorem dX9_readRule_22 : decode cX9_readRule 22 = .ok (.iadd, 1) := by decide +kernel
theorem dX9_readRule_23 : decode cX9_readRule 23 = .ok (.putfield 147, 3) := by decide +kernel
theorem dX9_readRule_26 : decode cX9_readRule 26 = .ok (.aload_n 0, 1) := by decide +kernel
theorem dX9_readRule_27 : decode cX9_readRule 27 = .ok (.bipush 63, 2) := by decide +kernel
theorem dX9_readRule_29 : decode cX9_readRule 29 = .ok (.invokevirtual 168, 3) := by decide +kernel
theorem dX9_readRule_32 : decode cX9_readRule 32 = .ok (.istore_n 1, 1) := by decide +kernel
theorem dX9_readRule_33 : decode cX9_readRule 33 = .ok (.aload_n 0, 1) := by decide +kernel
theorem dX9_readRule_34 : decode cX9_readRule 34 = .ok (.invokevirtual 171, 3) := by decide +kernel
theorem dX9_readRule_37 : decode cX9_readRule 37 = .ok (.aload_n 0, 1) := by decide +kernel
theorem dX9_readRule_38 : decode cX9_readRule 38 = .ok (.getfield 26, 3) := by decide +kernel
theorem dX9_readRule_41 : decode cX9_readRule 41 = .ok (.iconst 0, 1) := by decide +kernel
theorem dX9_readRule_42 : decode cX9_readRule 42 = .ok (.iload_n 1, 1) := by decide +kernel
theorem dX9_readRule_43 : decode cX9_readRule 43 = .ok (.iastore, 1) := by decide +kernel
theorem dX9_readRule_44 : decode cX9_readRule 44 = .ok (.return_, 1) := by decide +kernel
theorem dX9_readRoom_0 : decode cX9_readRoom 0 = .ok (.aload_n 0, 1) := by decide +kernel
theorem dX9_readRoom_1 : decode cX9_readRoom 1 = .ok (.getfield 26, 3) := by decide +kernel
theorem dX9_readRoom_4 : decode cX9_readRoom 4 = .ok (.iconst 1, 1) := by decide +kernel
theorem dX9_readRoom_5 : decode cX9_readRoom 5 = .ok (.iaload, 1) := by decide +kernel
theorem dX9_readRoom_6 : decode cX9_readRoom 6 = .ok (.bipush 8, 2) := by decide +kernel
theorem dX9_readRoom_8 : decode cX9_readRoom 8 = .ok (.if_icmp .ne 9, 3) := by decide +kernel
theorem dX9_readRoom_11 : decode cX9_readRoom 11 = .ok (.aload_n 0, 1) := by decide +kernel
theorem dX9_readRoom_12 : decode cX9_readRoom 12 = .ok (.iconst 3, 1) := by decide +kernel
theorem dX9_readRoom_13 : decode cX9_readRoom 13 = .ok (.invokevirtual 165, 3) := by decide +kernel
theorem dX9_readRoom_16 : decode cX9_readRoom 16 = .ok (.return_, 1) := by decide +kernel
theorem dX9_readRoom_17 : decode cX9_readRoom 17 = .ok (.aload_n 0, 1) := by decide +kernel
theorem dX9_readRoom_18 : decode cX9_readRoom 18 = .ok (.dup, 1) := by decide +kernel
theorem dX9_readRoom_19 : decode cX9_readRoom 19 = .ok (.getfield 147, 3) := by decide +kernel
theorem dX9_readRoom_22 : decode cX9_readRoom 22 = .ok (.iconst 1, 1) := by decide +kernel
theorem dX9_readRoom_23 : decode cX9_readRoom 23 = .ok (.iadd, 1) := by decide +kernel
theorem dX9_readRoom_24 : decode cX9_readRoom 24 = .ok (.putfield 147, 3) := by decide +kernel
theorem dX9_readRoom_27 : decode cX9_readRoom 27 = .ok (.aload_n 0, 1) := by decide +kernel
theorem dX9_readRoom_28 : decode cX9_readRoom 28 = .ok (.bipush 9, 2) := by decide +kernel
theorem dX9_readRoom_30 : decode cX9_readRoom 30 = .ok (.invokevirtual 168, 3) := by decide +kernel
theorem dX9_readRoom_33 : decode cX9_readRoom 33 = .ok (.istore_n 1, 1) := by decide +kernel
theorem dX9_readRoom_34 : decode cX9_readRoom 34 = .ok (.aload_n 0, 1) := by decide +kernel
theorem dX9_readRoom_35 : decode cX9_readRoom 35 = .ok (.iconst 1, 1) := by decide +kernel
theorem dX9_readRoom_36 : decode cX9_readRoom 36 = .ok (.invokevirtual 168, 3) := by decide +kernel
theorem dX9_readRoom_39 : decode cX9_readRoom 39 = .ok (.istore_n 2, 1) := by decide +kernel
theorem dX9_readRoom_40 : decode cX9_readRoom 40 = .ok (.aload_n 0, 1) := by decide +kernel
theorem dX9_readRoom_41 : decode cX9_readRoom 41 = .ok (.invokevirtual 171, 3) := by decide +kernel
theorem dX9_readRoom_44 : decode cX9_readRoom 44 = .ok (.aload_n 0, 1) := by decide +kernel
theorem dX9_readRoom_45 : decode cX9_readRoom 45 = .ok (.getfield 154, 3) := by decide +kernel
theorem dX9_readRoom_48 : decode cX9_readRoom 48 = .ok (.ifCond .ne 45, 3) := by decide +kernel
theorem dX9_readRoom_51 : decode cX9_readRoom 51 = .ok (.aload_n 0, 1) := by decide +kernel
theorem dX9_readRoom_52 : decode cX9_readRoom 52 = .ok (.getfield 26, 3) := by decide +kernel
theorem dX9_readRoom_55 : decode cX9_readRoom 55 = .ok (.iconst 4, 1) := by decide +kernel
theorem dX9_readRoom_56 : decode cX9_readRoom 56 = .ok (.iconst 2, 1) := by decide +kernel
theorem dX9_readRoom_57 : decode cX9_readRoom 57 = .ok (.aload_n 0, 1) := by decide +kernel
theorem dX9_readRoom_58 : decode cX9_readRoom 58 = .ok (.getfield 26, 3) := by decide +kernel
theorem dX9_readRoom_61 : decode cX9_readRoom 61 = .ok (.iconst 1, 1) := by decide +kernel
theorem dX9_readRoom_62 : decode cX9_readRoom 62 = .ok (.iaload, 1) := by decide +kernel
theorem dX9_readRoom_63 : decode cX9_readRoom 63 = .ok (.imul, 1) := by decide +kernel
theorem dX9_readRoom_64 : decode cX9_readRoom 64 = .ok (.iadd, 1) := by decide +kernel
theorem dX9_readRoom_65 : decode cX9_readRoom 65 = .ok (.iload_n 1, 1) := by decide +kernel
theorem dX9_readRoom_66 : decode cX9_readRoom 66 = .ok (.iastore, 1) := by decide +kernel
theorem dX9_readRoom_67 : decode cX9_readRoom 67 = .ok (.aload_n 0, 1) := by decide +kernel
theorem dX9_readRoom_68 : decode cX9_readRoom 68 = .ok (.getfield 26, 3) := by decide +kernel
theorem dX9_readRoom_71 : decode cX9_readRoom 71 = .ok (.iconst 5, 1) := by decide +kernel
theorem dX9_readRoom_72 : decode cX9_readRoom 72 = .ok (.iconst 2, 1) := by decide +kernel
theorem dX9_readRoom_73 : decode cX9_readRoom 73 = .ok (.aload_n 0, 1) := by decide +kernel
theorem dX9_readRoom_74 : decode cX9_readRoom 74 = .ok (.getfield 26, 3) := by decide +kernel
theorem dX9_readRoom_77 : decode cX9_readRoom 77 = .ok (.iconst 1, 1) := by decide +kernel
theorem dX9_readRoom_78 : decode cX9_readRoom 78 = .ok (.iaload, 1) := by decide +kernel
theorem dX9_readRoom_79 : decode cX9_readRoom 79 = .ok (.imul, 1) := by decide +kernel
theorem dX9_readRoom_80 : decode cX9_readRoom 80 = .ok (.iadd, 1) := by decide +kernel
theorem dX9_readRoom_81 : decode cX9_readRoom 81 = .ok (.iload_n 2, 1) := by decide +kernel
theorem dX9_readRoom_82 : decode cX9_readRoom 82 = .ok (.iastore, 1) := by decide +kernel
theorem dX9_readRoom_83 : decode cX9_readRoom 83 = .ok (.aload_n 0, 1) := by decide +kernel
theorem dX9_readRoom_84 : decode cX9_readRoom 84 = .ok (.getfield 26, 3) := by decide +kernel
theorem dX9_readRoom_87 : decode cX9_readRoom 87 = .ok (.iconst 1, 1) := by decide +kernel
theorem dX9_readRoom_88 : decode cX9_readRoom 88 = .ok (.dup2, 1) := by decide +kernel
theorem dX9_readRoom_89 : decode cX9_readRoom 89 = .ok (.iaload, 1) := by decide +kernel
theorem dX9_readRoom_90 : decode cX9_readRoom 90 = .ok (.iconst 1, 1) := by decide +kernel
theorem dX9_readRoom_91 : decode cX9_readRoom 91 = .ok (.iadd, 1) := by decide +kernel
theorem dX9_readRoom_92 : decode cX9_readRoom 92 = .ok (.iastore, 1) := by decide +kernel
theorem dX9_readRoom_93 : decode cX9_readRoom 93 = .ok (.return_, 1) := by decide +kernel
theorem dX9_readDoor_0 : decode cX9_readDoor 0 = .ok (.aload_n 0, 1) := by decide +kernel
theorem dX9_readDoor_1 : decode cX9_readDoor 1 = .ok (.getfield 26, 3) := by decide +kernel
theorem dX9_readDoor_4 : decode cX9_readDoor 4 = .ok (.iconst 2, 1) := by decide +kernel
theorem dX9_readDoor_5 : decode cX9_readDoor 5 = .ok (.iaload, 1) := by decide +kernel
theorem dX9_readDoor_6 : decode cX9_readDoor 6 = .ok (.bipush 12, 2) := by decide +kernel
theorem dX9_readDoor_8 : decode cX9_readDoor 8 = .ok (.if_icmp .ne 9, 3) := by decide +kernel
theorem dX9_readDoor_11 : decode cX9_readDoor 11 = .ok (.aload_n 0, 1) := by decide +kernel
theorem dX9_readDoor_12 : decode cX9_readDoor 12 = .ok (.iconst 3, 1) := by decide +kernel
theorem dX9_readDoor_13 : decode cX9_readDoor 13 = .ok (.invokevirtual 165, 3) := by decide +kernel
theorem dX9_readDoor_16 : decode cX9_readDoor 16 = .ok (.return_, 1) := by decide +kernel
theorem dX9_readDoor_17 : decode cX9_readDoor 17 = .ok (.aload_n 0, 1) := by decide +kernel
theorem dX9_readDoor_18 : decode cX9_readDoor 18 = .ok (.dup, 1) := by decide +kernel
theorem dX9_readDoor_19 : decode cX9_readDoor 19 = .ok (.getfield 147, 3) := by decide +kernel
theorem dX9_readDoor_22 : decode cX9_readDoor 22 = .ok (.iconst 1, 1) := by decide +kernel
theorem dX9_readDoor_23 : decode cX9_readDoor 23 = .ok (.iadd, 1) := by decide +kernel
theorem dX9_readDoor_24 : decode cX9_readDoor 24 = .ok (.putfield 147, 3) := by decide +kernel
theorem dX9_readDoor_27 : decode cX9_readDoor 27 = .ok (.aload_n 0, 1) := by decide +kernel
theorem dX9_readDoor_28 : decode cX9_readDoor 28 = .ok (.aload_n 0, 1) := by decide +kernel
theorem dX9_readDoor_29 : decode cX9_readDoor 29 = .ok (.getfield 26, 3) := by decide +kernel
theorem dX9_readDoor_32 : decode cX9_readDoor 32 = .ok (.iconst 1, 1) := by decide +kernel
theorem dX9_readDoor_33 : decode cX9_readDoor 33 = .ok (.iaload, 1) := by decide +kernel
theorem dX9_readDoor_34 : decode cX9_readDoor 34 = .ok (.iconst 1, 1) := by decide +kernel
theorem dX9_readDoor_35 : decode cX9_readDoor 35 = .ok (.isub, 1) := by decide +kernel
theorem dX9_readDoor_36 : decode cX9_readDoor 36 = .ok (.invokevirtual 168, 3) := by decide +kernel
theorem dX9_readDoor_39 : decode cX9_readDoor 39 = .ok (.istore_n 1, 1) := by decide +kernel
theorem dX9_readDoor_40 : decode cX9_readDoor 40 = .ok (.aload_n 0, 1) := by decide +kernel
theorem dX9_readDoor_41 : decode cX9_readDoor 41 = .ok (.invokevirtual 157, 3) := by decide +kernel
theorem dX9_readDoor_44 : decode cX9_readDoor 44 = .ok (.pop, 1) := by decide +kernel
theorem dX9_readDoor_45 : decode cX9_readDoor 45 = .ok (.aload_n 0, 1) := by decide +kernel
theorem dX9_readDoor_46 : decode cX9_readDoor 46 = .ok (.getfield 147, 3) := by decide +kernel
theorem dX9_readDoor_49 : decode cX9_readDoor 49 = .ok (.istore_n 2, 1) := by decide +kernel
theorem dX9_readDoor_50 : decode cX9_readDoor 50 = .ok (.aload_n 0, 1) := by decide +kernel
theorem dX9_readDoor_51 : decode cX9_readDoor 51 = .ok (.aload_n 0, 1) := by decide +kernel
theorem dX9_readDoor_52 : decode cX9_readDoor 52 = .ok (.getfield 26, 3) := by decide +kernel
theorem dX9_readDoor_55 : decode cX9_readDoor 55 = .ok (.iconst 1, 1) := by decide +kernel
theorem dX9_readDoor_56 : decode cX9_readDoor 56 = .ok (.iaload, 1) := by decide +kernel
theorem dX9_readDoor_57 : decode cX9_readDoor 57 = .ok (.iconst 1, 1) := by decide +kernel
theorem dX9_readDoor_58 : decode cX9_readDoor 58 = .ok (.isub, 1) := by decide +kernel
theorem dX9_readDoor_59 : decode cX9_readDoor 59 = .ok (.invokevirtual 168, 3) := by decide +kernel
theorem dX9_readDoor_62 : decode cX9_readDoor 62 = .ok (.istore_n 3, 1) := by decide +kernel
theorem dX9_readDoor_63 : decode cX9_readDoor 63 = .ok (.iload_n 1, 1) := by decide +kernel
theorem dX9_readDoor_64 : decode cX9_readDoor 64 = .ok (.iload_n 3, 1) := by decide +kernel
theorem dX9_readDoor_65 : decode cX9_readDoor 65 = .ok (.if_icmp .ne 7, 3) := by decide +kernel
theorem dX9_readDoor_68 : decode cX9_readDoor 68 = .ok (.iconst 1, 1) := by decide +kernel
theorem dX9_readDoor_69 : decode cX9_readDoor 69 = .ok (.goto 4, 3) := by decide +kernel
theorem dX9_readDoor_72 : decode cX9_readDoor 72 = .ok (.iconst 0, 1) := by decide +kernel
theorem dX9_readDoor_73 : decode cX9_readDoor 73 = .ok (.istore 4, 2) := by decide +kernel
theorem dX9_readDoor_75 : decode cX9_readDoor 75 = .ok (.iconst 0, 1) := by decide +kernel
theorem dX9_readDoor_76 : decode cX9_readDoor 76 = .ok (.istore 5, 2) := by decide +kernel
theorem dX9_readDoor_78 : decode cX9_readDoor 78 = .ok (.iload 5, 2) := by decide +kernel
theorem dX9_readDoor_80 : decode cX9_readDoor 80 = .ok (.aload_n 0, 1) := by decide +kernel
theorem dX9_readDoor_81 : decode cX9_readDoor 81 = .ok (.getfield 26, 3) := by decide +kernel
theorem dX9_readDoor_84 : decode cX9_readDoor 84 = .ok (.iconst 2, 1) := by decide +kernel
theorem dX9_readDoor_85 : decode cX9_readDoor 85 = .ok (.iaload, 1) := by decide +kernel
theorem dX9_readDoor_86 : decode cX9_readDoor 86 = .ok (.if_icmp .ge 73, 3) := by decide +kernel
theorem dX9_readDoor_89 : decode cX9_readDoor 89 = .ok (.aload_n 0, 1) := by decide +kernel
theorem dX9_readDoor_90 : decode cX9_readDoor 90 = .ok (.getfield 26, 3) := by decide +kernel
theorem dX9_readDoor_93 : decode cX9_readDoor 93 = .ok (.bipush 20, 2) := by decide +kernel
theorem dX9_readDoor_95 : decode cX9_readDoor 95 = .ok (.iconst 2, 1) := by decide +kernel
theorem dX9_readDoor_96 : decode cX9_readDoor 96 = .ok (.iload 5, 2) := by decide +kernel
theorem dX9_readDoor_98 : decode cX9_readDoor 98 = .ok (.imul, 1) := by decide +kernel
theorem dX9_readDoor_99 : decode cX9_readDoor 99 = .ok (.iadd, 1) := by decide +kernel
theorem dX9_readDoor_100 : decode cX9_readDoor 100 = .ok (.iaload, 1) := by decide +kernel
theorem dX9_readDoor_101 : decode cX9_readDoor 101 = .ok (.istore 6, 2) := by decide +kernel
theorem dX9_readDoor_103 : decode cX9_readDoor 103 = .ok (.aload_n 0, 1) := by decide +kernel
theorem dX9_readDoor_104 : decode cX9_readDoor 104 = .ok (.getfield 26, 3) := by decide +kernel
theorem dX9_readDoor_107 : decode cX9_readDoor 107 = .ok (.bipush 21, 2) := by decide +kernel
theorem dX9_readDoor_109 : decode cX9_readDoor 109 = .ok (.iconst 2, 1) := by decide +kernel
theorem dX9_readDoor_110 : decode cX9_readDoor 110 = .ok (.iload 5, 2) := by decide +kernel
theorem dX9_readDoor_112 : decode cX9_readDoor 112 = .ok (.imul, 1) := by decide +kernel
theorem dX9_readDoor_113 : decode cX9_readDoor 113 = .ok (.iadd, 1) := by decide +kernel
theorem dX9_readDoor_114 : decode cX9_readDoor 114 = .ok (.iaload, 1) := by decide +kernel
theorem dX9_readDoor_115 : decode cX9_readDoor 115 = .ok (.istore 7, 2) := by decide +kernel
theorem dX9_readDoor_117 : decode cX9_readDoor 117 = .ok (.iload 4, 2) := by decide +kernel
theorem dX9_readDoor_119 : decode cX9_readDoor 119 = .ok (.ifCond .ne 27, 3) := by decide +kernel
theorem dX9_readDoor_122 : decode cX9_readDoor 122 = .ok (.iload 6, 2) := by decide +kernel
theorem dX9_readDoor_124 : decode cX9_readDoor 124 = .ok (.iload_n 1, 1) := by decide +kernel
theorem dX9_readDoor_125 : decode cX9_readDoor 125 = .ok (.if_icmp .ne 9, 3) := by decide +kernel
theorem dX9_readDoor_128 : decode cX9_readDoor 128 = .ok (.iload 7, 2) := by decide +kernel
theorem dX9_readDoor_130 : decode cX9_readDoor 130 = .ok (.iload_n 3, 1) := by decide +kernel
theorem dX9_readDoor_131 : decode cX9_readDoor 131 = .ok (.if_icmp .eq 15, 3) := by decide +kernel
theorem dX9_readDoor_134 : decode cX9_readDoor 134 = .ok (.iload 6, 2) := by decide +kernel
theorem dX9_readDoor_136 : decode cX9_readDoor 136 = .ok (.iload_n 3, 1) := by decide +kernel
theorem dX9_readDoor_137 : decode cX9_readDoor 137 = .ok (.if_icmp .ne 13, 3) := by decide +kernel
theorem dX9_readDoor_140 : decode cX9_readDoor 140 = .ok (.iload 7, 2) := by decide +kernel
theorem dX9_readDoor_142 : decode cX9_readDoor 142 = .ok (.iload_n 1, 1) := by decide +kernel
theorem dX9_readDoor_143 : decode cX9_readDoor 143 = .ok (.if_icmp .ne 7, 3) := by decide +kernel
theorem dX9_readDoor_146 : decode cX9_readDoor 146 = .ok (.iconst 1, 1) := by decide +kernel
theorem dX9_readDoor_147 : decode cX9_readDoor 147 = .ok (.goto 4, 3) := by decide +kernel
theorem dX9_readDoor_150 : decode cX9_readDoor 150 = .ok (.iconst 0, 1) := by decide +kernel
theorem dX9_readDoor_151 : decode cX9_readDoor 151 = .ok (.istore 4, 2) := by decide +kernel
theorem dX9_readDoor_153 : decode cX9_readDoor 153 = .ok (.iinc 5 1, 3) := by decide +kernel
theorem dX9_readDoor_156 : decode cX9_readDoor 156 = .ok (.goto (-78), 3) := by decide +kernel
theorem dX9_readDoor_159 : decode cX9_readDoor 159 = .ok (.aload_n 0, 1) := by decide +kernel
theorem dX9_readDoor_160 : decode cX9_readDoor 160 = .ok (.getfield 154, 3) := by decide +kernel
theorem dX9_readDoor_163 : decode cX9_readDoor 163 = .ok (.ifCond .ne 18, 3) := by decide +kernel
theorem dX9_readDoor_166 : decode cX9_readDoor 166 = .ok (.iload 4, 2) := by decide +kernel
theorem dX9_readDoor_168 : decode cX9_readDoor 168 = .ok (.ifCond .eq 13, 3) := by decide +kernel
theorem dX9_readDoor_171 : decode cX9_readDoor 171 = .ok (.aload_n 0, 1) := by decide +kernel
theorem dX9_readDoor_172 : decode cX9_readDoor 172 = .ok (.iconst 4, 1) := by decide +kernel
theorem dX9_readDoor_173 : decode cX9_readDoor 173 = .ok (.invokevirtual 165, 3) := by decide +kernel
theorem dX9_readDoor_176 : decode cX9_readDoor 176 = .ok (.aload_n 0, 1) := by decide +kernel
theorem dX9_readDoor_177 : decode cX9_readDoor 177 = .ok (.iload_n 2, 1) := by decide +kernel
theorem dX9_readDoor_178 : decode cX9_readDoor 178 = .ok (.putfield 147, 3) := by decide +kernel
theorem dX9_readDoor_181 : decode cX9_readDoor 181 = .ok (.aload_n 0, 1) := by decide +kernel
theorem dX9_readDoor_182 : decode cX9_readDoor 182 = .ok (.invokevirtual 171, 3) := by decide +kernel
theorem dX9_readDoor_185 : decode cX9_readDoor 185 = .ok (.aload_n 0, 1) := by decide +kernel
theorem dX9_readDoor_186 : decode cX9_readDoor 186 = .ok (.getfield 154, 3) := by decide +kernel
theorem dX9_readDoor_189 : decode cX9_readDoor 189 = .ok (.ifCond .ne 47, 3) := by decide +kernel
theorem dX9_readDoor_192 : decode cX9_readDoor 192 = .ok (.aload_n 0, 1) := by decide +kernel
theorem dX9_readDoor_193 : decode cX9_readDoor 193 = .ok (.getfield 26, 3) := by decide +kernel
theorem dX9_readDoor_196 : decode cX9_readDoor 196 = .ok (.bipush 20, 2) := by decide +kernel
theorem dX9_readDoor_198 : decode cX9_readDoor 198 = .ok (.iconst 2, 1) := by decide +kernel
theorem dX9_readDoor_199 : decode cX9_readDoor 199 = .ok (.aload_n 0, 1) := by decide +kernel
theorem dX9_readDoor_200 : decode cX9_readDoor 200 = .ok (.getfield 26, 3) := by decide +kernel
theorem dX9_readDoor_203 : decode cX9_readDoor 203 = .ok (.iconst 2, 1) := by decide +kernel
theorem dX9_readDoor_204 : decode cX9_readDoor 204 = .ok (.iaload, 1) := by decide +kernel
theorem dX9_readDoor_205 : decode cX9_readDoor 205 = .ok (.imul, 1) := by decide +kernel
theorem dX9_readDoor_206 : decode cX9_readDoor 206 = .ok (.iadd, 1) := by decide +kernel
theorem dX9_readDoor_207 : decode cX9_readDoor 207 = .ok (.iload_n 1, 1) := by decide +kernel
theorem dX9_readDoor_208 : decode cX9_readDoor 208 = .ok (.iastore, 1) := by decide +kernel
theorem dX9_readDoor_209 : decode cX9_readDoor 209 = .ok (.aload_n 0, 1) := by decide +kernel
theorem dX9_readDoor_210 : decode cX9_readDoor 210 = .ok (.getfield 26, 3) := by decide +kernel
theorem dX9_readDoor_213 : decode cX9_readDoor 213 = .ok (.bipush 21, 2) := by decide +kernel
theorem dX9_readDoor_215 : decode cX9_readDoor 215 = .ok (.iconst 2, 1) := by decide +kernel
theorem dX9_readDoor_216 : decode cX9_readDoor 216 = .ok (.aload_n 0, 1) := by decide +kernel
theorem dX9_readDoor_217 : decode cX9_readDoor 217 = .ok (.getfield 26, 3) := by decide +kernel
theorem dX9_readDoor_220 : decode cX9_readDoor 220 = .ok (.iconst 2, 1) := by decide +kernel
theorem dX9_readDoor_221 : decode cX9_readDoor 221 = .ok (.iaload, 1) := by decide +kernel
theorem dX9_readDoor_222 : decode cX9_readDoor 222 = .ok (.imul, 1) := by decide +kernel
theorem dX9_readDoor_223 : decode cX9_readDoor 223 = .ok (.iadd, 1) := by decide +kernel
theorem dX9_readDoor_224 : decode cX9_readDoor 224 = .ok (.iload_n 3, 1) := by decide +kernel
theorem dX9_readDoor_225 : decode cX9_readDoor 225 = .ok (.iastore, 1) := by decide +kernel
theorem dX9_readDoor_226 : decode cX9_readDoor 226 = .ok (.aload_n 0, 1) := by decide +kernel
theorem dX9_readDoor_227 : decode cX9_readDoor 227 = .ok (.getfield 26, 3) := by decide +kernel
theorem dX9_readDoor_230 : decode cX9_readDoor 230 = .ok (.iconst 2, 1) := by decide +kernel
theorem dX9_readDoor_231 : decode cX9_readDoor 231 = .ok (.dup2, 1) := by decide +kernel
theorem dX9_readDoor_232 : decode cX9_readDoor 232 = .ok (.iaload, 1) := by decide +kernel
theorem dX9_readDoor_233 : decode cX9_readDoor 233 = .ok (.iconst 1, 1) := by decide +kernel
theorem dX9_readDoor_234 : decode cX9_readDoor 234 = .ok (.iadd, 1) := by decide +kernel
theorem dX9_readDoor_235 : decode cX9_readDoor 235 = .ok (.iastore, 1) := by decide +kernel
theorem dX9_readDoor_236 : decode cX9_readDoor 236 = .ok (.return_, 1) := by decide +kernel
theorem dX9_readPetition_0 : decode cX9_readPetition 0 = .ok (.aload_n 0, 1) := by decide +kernel
theorem dX9_readPetition_1 : decode cX9_readPetition 1 = .ok (.getfield 26, 3) := by decide +kernel
theorem dX9_readPetition_4 : decode cX9_readPetition 4 = .ok (.iconst 3, 1) := by decide +kernel
theorem dX9_readPetition_5 : decode cX9_readPetition 5 = .ok (.iaload, 1) := by decide +kernel
theorem dX9_readPetition_6 : decode cX9_readPetition 6 = .ok (.bipush 6, 2) := by decide +kernel
theorem dX9_readPetition_8 : decode cX9_readPetition 8 = .ok (.if_icmp .ne 9, 3) := by decide +kernel
theorem dX9_readPetition_11 : decode cX9_readPetition 11 = .ok (.aload_n 0, 1) := by decide +kernel
theorem dX9_readPetition_12 : decode cX9_readPetition 12 = .ok (.iconst 3, 1) := by decide +kernel
theorem dX9_readPetition_13 : decode cX9_readPetition 13 = .ok (.invokevirtual 165, 3) := by decide +kernel
theorem dX9_readPetition_16 : decode cX9_readPetition 16 = .ok (.return_, 1) := by decide +kernel
theorem dX9_readPetition_17 : decode cX9_readPetition 17 = .ok (.aload_n 0, 1) := by decide +kernel
theorem dX9_readPetition_18 : decode cX9_readPetition 18 = .ok (.dup, 1) := by decide +kernel
theorem dX9_readPetition_19 : decode cX9_readPetition 19 = .ok (.getfield 147, 3) := by decide +kernel
theorem dX9_readPetition_22 : decode cX9_readPetition 22 = .ok (.iconst 1, 1) := by decide +kernel
theorem dX9_readPetition_23 : decode cX9_readPetition 23 = .ok (.iadd, 1) := by decide +kernel
theorem dX9_readPetition_24 : decode cX9_readPetition 24 = .ok (.putfield 147, 3) := by decide +kernel
theorem dX9_readPetition_27 : decode cX9_readPetition 27 = .ok (.aload_n 0, 1) := by decide +kernel
theorem dX9_readPetition_28 : decode cX9_readPetition 28 = .ok (.aload_n 0, 1) := by decide +kernel
theorem dX9_readPetition_29 : decode cX9_readPetition 29 = .ok (.getfield 26, 3) := by decide +kernel
theorem dX9_readPetition_32 : decode cX9_readPetition 32 = .ok (.iconst 1, 1) := by decide +kernel
theorem dX9_readPetition_33 : decode cX9_readPetition 33 = .ok (.iaload, 1) := by decide +kernel
theorem dX9_readPetition_34 : decode cX9_readPetition 34 = .ok (.iconst 1, 1) := by decide +kernel
theorem dX9_readPetition_35 : decode cX9_readPetition 35 = .ok (.isub, 1) := by decide +kernel
theorem dX9_readPetition_36 : decode cX9_readPetition 36 = .ok (.invokevirtual 168, 3) := by decide +kernel
theorem dX9_readPetition_39 : decode cX9_readPetition 39 = .ok (.istore_n 1, 1) := by decide +kernel
theorem dX9_readPetition_40 : decode cX9_readPetition 40 = .ok (.aload_n 0, 1) := by decide +kernel
theorem dX9_readPetition_41 : decode cX9_readPetition 41 = .ok (.bipush 99, 2) := by decide +kernel
theorem dX9_readPetition_43 : decode cX9_readPetition 43 = .ok (.invokevirtual 168, 3) := by decide +kernel
theorem dX9_readPetition_46 : decode cX9_readPetition 46 = .ok (.istore_n 2, 1) := by decide +kernel
theorem dX9_readPetition_47 : decode cX9_readPetition 47 = .ok (.aload_n 0, 1) := by decide +kernel
theorem dX9_readPetition_48 : decode cX9_readPetition 48 = .ok (.invokevirtual 171, 3) := by decide +kernel
theorem dX9_readPetition_51 : decode cX9_readPetition 51 = .ok (.aload_n 0, 1) := by decide +kernel
theorem dX9_readPetition_52 : decode cX9_readPetition 52 = .ok (.getfield 154, 3) := by decide +kernel
theorem dX9_readPetition_55 : decode cX9_readPetition 55 = .ok (.ifCond .ne 47, 3) := by decide +kernel
theorem dX9_readPetition_58 : decode cX9_readPetition 58 = .ok (.aload_n 0, 1) := by decide +kernel
theorem dX9_readPetition_59 : decode cX9_readPetition 59 = .ok (.getfield 26, 3) := by decide +kernel
theorem dX9_readPetition_62 : decode cX9_readPetition 62 = .ok (.bipush 44, 2) := by decide +kernel
theorem dX9_readPetition_64 : decode cX9_readPetition 64 = .ok (.iconst 2, 1) := by decide +kernel
theorem dX9_readPetition_65 : decode cX9_readPetition 65 = .ok (.aload_n 0, 1) := by decide +kernel
theorem dX9_readPetition_66 : decode cX9_readPetition 66 = .ok (.getfield 26, 3) := by decide +kernel
theorem dX9_readPetition_69 : decode cX9_readPetition 69 = .ok (.iconst 3, 1) := by decide +kernel
theorem dX9_readPetition_70 : decode cX9_readPetition 70 = .ok (.iaload, 1) := by decide +kernel
theorem dX9_readPetition_71 : decode cX9_readPetition 71 = .ok (.imul, 1) := by decide +kernel
theorem dX9_readPetition_72 : decode cX9_readPetition 72 = .ok (.iadd, 1) := by decide +kernel
theorem dX9_readPetition_73 : decode cX9_readPetition 73 = .ok (.iload_n 1, 1) := by decide +kernel
theorem dX9_readPetition_74 : decode cX9_readPetition 74 = .ok (.iastore, 1) := by decide +kernel
theorem dX9_readPetition_75 : decode cX9_readPetition 75 = .ok (.aload_n 0, 1) := by decide +kernel
theorem dX9_readPetition_76 : decode cX9_readPetition 76 = .ok (.getfield 26, 3) := by decide +kernel
theorem dX9_readPetition_79 : decode cX9_readPetition 79 = .ok (.bipush 45, 2) := by decide +kernel
theorem dX9_readPetition_81 : decode cX9_readPetition 81 = .ok (.iconst 2, 1) := by decide +kernel
theorem dX9_readPetition_82 : decode cX9_readPetition 82 = .ok (.aload_n 0, 1) := by decide +kernel
theorem dX9_readPetition_83 : decode cX9_readPetition 83 = .ok (.getfield 26, 3) := by decide +kernel
theorem dX9_readPetition_86 : decode cX9_readPetition 86 = .ok (.iconst 3, 1) := by decide +kernel
theorem dX9_readPetition_87 : decode cX9_readPetition 87 = .ok (.iaload, 1) := by decide +kernel
theorem dX9_readPetition_88 : decode cX9_readPetition 88 = .ok (.imul, 1) := by decide +kernel
theorem dX9_readPetition_89 : decode cX9_readPetition 89 = .ok (.iadd, 1) := by decide +kernel
theorem dX9_readPetition_90 : decode cX9_readPetition 90 = .ok (.iload_n 2, 1) := by decide +kernel
theorem dX9_readPetition_91 : decode cX9_readPetition 91 = .ok (.iastore, 1) := by decide +kernel
theorem dX9_readPetition_92 : decode cX9_readPetition 92 = .ok (.aload_n 0, 1) := by decide +kernel
theorem dX9_readPetition_93 : decode cX9_readPetition 93 = .ok (.getfield 26, 3) := by decide +kernel
theorem dX9_readPetition_96 : decode cX9_readPetition 96 = .ok (.iconst 3, 1) := by decide +kernel
theorem dX9_readPetition_97 : decode cX9_readPetition 97 = .ok (.dup2, 1) := by decide +kernel
theorem dX9_readPetition_98 : decode cX9_readPetition 98 = .ok (.iaload, 1) := by decide +kernel
theorem dX9_readPetition_99 : decode cX9_readPetition 99 = .ok (.iconst 1, 1) := by decide +kernel
theorem dX9_readPetition_100 : decode cX9_readPetition 100 = .ok (.iadd, 1) := by decide +kernel
theorem dX9_readPetition_101 : decode cX9_readPetition 101 = .ok (.iastore, 1) := by decide +kernel
theorem dX9_readPetition_102 : decode cX9_readPetition 102 = .ok (.return_, 1) := by decide +kernel
theorem dX9_readClause_0 : decode cX9_readClause 0 = .ok (.aload_n 0, 1) := by decide +kernel
theorem dX9_readClause_1 : decode cX9_readClause 1 = .ok (.invokevirtual 157, 3) := by decide +kernel
theorem dX9_readClause_4 : decode cX9_readClause 4 = .ok (.istore_n 1, 1) := by decide +kernel
theorem dX9_readClause_5 : decode cX9_readClause 5 = .ok (.iload_n 1, 1) := by decide +kernel
theorem dX9_readClause_6 : decode cX9_readClause 6 = .ok (.bipush 115, 2) := by decide +kernel
theorem dX9_readClause_8 : decode cX9_readClause 8 = .ok (.if_icmp .ne 10, 3) := by decide +kernel
theorem dX9_readClause_11 : decode cX9_readClause 11 = .ok (.aload_n 0, 1) := by decide +kernel
theorem dX9_readClause_12 : decode cX9_readClause 12 = .ok (.invokevirtual 174, 3) := by decide +kernel
theorem dX9_readClause_15 : decode cX9_readClause 15 = .ok (.goto 69, 3) := by decide +kernel
theorem dX9_readClause_18 : decode cX9_readClause 18 = .ok (.aload_n 0, 1) := by decide +kernel
theorem dX9_readClause_19 : decode cX9_readClause 19 = .ok (.getfield 26, 3) := by decide +kernel
theorem dX9_readClause_22 : decode cX9_readClause 22 = .ok (.iconst 0, 1) := by decide +kernel
theorem dX9_readClause_23 : decode cX9_readClause 23 = .ok (.iaload, 1) := by decide +kernel
theorem dX9_readClause_24 : decode cX9_readClause 24 = .ok (.iconst (-1), 1) := by decide +kernel
theorem dX9_readClause_25 : decode cX9_readClause 25 = .ok (.if_icmp .eq 21, 3) := by decide +kernel
theorem dX9_readClause_28 : decode cX9_readClause 28 = .ok (.iload_n 1, 1) := by decide +kernel
theorem dX9_readClause_29 : decode cX9_readClause 29 = .ok (.bipush 114, 2) := by decide +kernel
theorem dX9_readClause_31 : decode cX9_readClause 31 = .ok (.if_icmp .eq 23, 3) := by decide +kernel
theorem dX9_readClause_34 : decode cX9_readClause 34 = .ok (.iload_n 1, 1) := by decide +kernel
theorem dX9_readClause_35 : decode cX9_readClause 35 = .ok (.bipush 100, 2) := by decide +kernel
theorem dX9_readClause_37 : decode cX9_readClause 37 = .ok (.if_icmp .eq 17, 3) := by decide +kernel
theorem dX9_readClause_40 : decode cX9_readClause 40 = .ok (.iload_n 1, 1) := by decide +kernel
theorem dX9_readClause_41 : decode cX9_readClause 41 = .ok (.bipush 112, 2) := by decide +kernel
theorem dX9_readClause_43 : decode cX9_readClause 43 = .ok (.if_icmp .eq 11, 3) := by decide +kernel
theorem dX9_readClause_46 : decode cX9_readClause 46 = .ok (.aload_n 0, 1) := by decide +kernel
theorem dX9_readClause_47 : decode cX9_readClause 47 = .ok (.iconst 1, 1) := by decide +kernel
theorem dX9_readClause_48 : decode cX9_readClause 48 = .ok (.invokevirtual 165, 3) := by decide +kernel
theorem dX9_readClause_51 : decode cX9_readClause 51 = .ok (.goto 33, 3) := by decide +kernel
theorem dX9_readClause_54 : decode cX9_readClause 54 = .ok (.iload_n 1, 1) := by decide +kernel
theorem dX9_readClause_55 : decode cX9_readClause 55 = .ok (.bipush 114, 2) := by decide +kernel
theorem dX9_readClause_57 : decode cX9_readClause 57 = .ok (.if_icmp .ne 10, 3) := by decide +kernel
theorem dX9_readClause_60 : decode cX9_readClause 60 = .ok (.aload_n 0, 1) := by decide +kernel
theorem dX9_readClause_61 : decode cX9_readClause 61 = .ok (.invokevirtual 177, 3) := by decide +kernel
theorem dX9_readClause_64 : decode cX9_readClause 64 = .ok (.goto 20, 3) := by decide +kernel
theorem dX9_readClause_67 : decode cX9_readClause 67 = .ok (.iload_n 1, 1) := by decide +kernel
theorem dX9_readClause_68 : decode cX9_readClause 68 = .ok (.bipush 100, 2) := by decide +kernel
theorem dX9_readClause_70 : decode cX9_readClause 70 = .ok (.if_icmp .ne 10, 3) := by decide +kernel
theorem dX9_readClause_73 : decode cX9_readClause 73 = .ok (.aload_n 0, 1) := by decide +kernel
theorem dX9_readClause_74 : decode cX9_readClause 74 = .ok (.invokevirtual 180, 3) := by decide +kernel
theorem dX9_readClause_77 : decode cX9_readClause 77 = .ok (.goto 7, 3) := by decide +kernel
theorem dX9_readClause_80 : decode cX9_readClause 80 = .ok (.aload_n 0, 1) := by decide +kernel
theorem dX9_readClause_81 : decode cX9_readClause 81 = .ok (.invokevirtual 183, 3) := by decide +kernel
theorem dX9_readClause_84 : decode cX9_readClause 84 = .ok (.return_, 1) := by decide +kernel
theorem dX9_becomes_0 : decode cX9_becomes 0 = .ok (.iconst 0, 1) := by decide +kernel
theorem dX9_becomes_1 : decode cX9_becomes 1 = .ok (.istore_n 1, 1) := by decide +kernel
theorem dX9_becomes_2 : decode cX9_becomes 2 = .ok (.iload_n 1, 1) := by decide +kernel
theorem dX9_becomes_3 : decode cX9_becomes 3 = .ok (.bipush 80, 2) := by decide +kernel
theorem dX9_becomes_5 : decode cX9_becomes 5 = .ok (.if_icmp .ge 16, 3) := by decide +kernel
theorem dX9_becomes_8 : decode cX9_becomes 8 = .ok (.aload_n 0, 1) := by decide +kernel
theorem dX9_becomes_9 : decode cX9_becomes 9 = .ok (.getfield 19, 3) := by decide +kernel
theorem dX9_becomes_12 : decode cX9_becomes 12 = .ok (.iload_n 1, 1) := by decide +kernel
theorem dX9_becomes_13 : decode cX9_becomes 13 = .ok (.lconst 0, 1) := by decide +kernel
theorem dX9_becomes_14 : decode cX9_becomes 14 = .ok (.lastore, 1) := by decide +kernel
theorem dX9_becomes_15 : decode cX9_becomes 15 = .ok (.iinc 1 1, 3) := by decide +kernel
theorem dX9_becomes_18 : decode cX9_becomes 18 = .ok (.goto (-16), 3) := by decide +kernel
theorem dX9_becomes_21 : decode cX9_becomes 21 = .ok (.aload_n 0, 1) := by decide +kernel
theorem dX9_becomes_22 : decode cX9_becomes 22 = .ok (.aload_n 0, 1) := by decide +kernel
theorem dX9_becomes_23 : decode cX9_becomes 23 = .ok (.getfield 26, 3) := by decide +kernel
theorem dX9_becomes_26 : decode cX9_becomes 26 = .ok (.iconst 0, 1) := by decide +kernel
theorem dX9_becomes_27 : decode cX9_becomes 27 = .ok (.iaload, 1) := by decide +kernel
theorem dX9_becomes_28 : decode cX9_becomes 28 = .ok (.iconst (-1), 1) := by decide +kernel
theorem dX9_becomes_29 : decode cX9_becomes 29 = .ok (.if_icmp .eq 7, 3) := by decide +kernel
theorem dX9_becomes_32 : decode cX9_becomes 32 = .ok (.iconst 1, 1) := by decide +kernel
theorem dX9_becomes_33 : decode cX9_becomes 33 = .ok (.goto 4, 3) := by decide +kernel
theorem dX9_becomes_36 : decode cX9_becomes 36 = .ok (.iconst 0, 1) := by decide +kernel
theorem dX9_becomes_37 : decode cX9_becomes 37 = .ok (.putfield 186, 3) := by decide +kernel
theorem dX9_becomes_40 : decode cX9_becomes 40 = .ok (.aload_n 0, 1) := by decide +kernel
theorem dX9_becomes_41 : decode cX9_becomes 41 = .ok (.aload_n 0, 1) := by decide +kernel
theorem dX9_becomes_42 : decode cX9_becomes 42 = .ok (.getfield 26, 3) := by decide +kernel
theorem dX9_becomes_45 : decode cX9_becomes 45 = .ok (.iconst 1, 1) := by decide +kernel
theorem dX9_becomes_46 : decode cX9_becomes 46 = .ok (.iaload, 1) := by decide +kernel
theorem dX9_becomes_47 : decode cX9_becomes 47 = .ok (.putfield 64, 3) := by decide +kernel
theorem dX9_becomes_50 : decode cX9_becomes 50 = .ok (.aload_n 0, 1) := by decide +kernel
theorem dX9_becomes_51 : decode cX9_becomes 51 = .ok (.aload_n 0, 1) := by decide +kernel
theorem dX9_becomes_52 : decode cX9_becomes 52 = .ok (.getfield 26, 3) := by decide +kernel
theorem dX9_becomes_55 : decode cX9_becomes 55 = .ok (.iconst 2, 1) := by decide +kernel
theorem dX9_becomes_56 : decode cX9_becomes 56 = .ok (.iaload, 1) := by decide +kernel
theorem dX9_becomes_57 : decode cX9_becomes 57 = .ok (.putfield 71, 3) := by decide +kernel
theorem dX9_becomes_60 : decode cX9_becomes 60 = .ok (.aload_n 0, 1) := by decide +kernel
theorem dX9_becomes_61 : decode cX9_becomes 61 = .ok (.aload_n 0, 1) := by decide +kernel
theorem dX9_becomes_62 : decode cX9_becomes 62 = .ok (.getfield 26, 3) := by decide +kernel
theorem dX9_becomes_65 : decode cX9_becomes 65 = .ok (.iconst 3, 1) := by decide +kernel
theorem dX9_becomes_66 : decode cX9_becomes 66 = .ok (.iaload, 1) := by decide +kernel
theorem dX9_becomes_67 : decode cX9_becomes 67 = .ok (.putfield 74, 3) := by decide +kernel
theorem dX9_becomes_70 : decode cX9_becomes 70 = .ok (.aload_n 0, 1) := by decide +kernel
theorem dX9_becomes_71 : decode cX9_becomes 71 = .ok (.getfield 19, 3) := by decide +kernel
theorem dX9_becomes_74 : decode cX9_becomes 74 = .ok (.iconst 0, 1) := by decide +kernel
theorem dX9_becomes_75 : decode cX9_becomes 75 = .ok (.aload_n 0, 1) := by decide +kernel
theorem dX9_becomes_76 : decode cX9_becomes 76 = .ok (.getfield 186, 3) := by decide +kernel
theorem dX9_becomes_79 : decode cX9_becomes 79 = .ok (.ifCond .eq 13, 3) := by decide +kernel
theorem dX9_becomes_82 : decode cX9_becomes 82 = .ok (.aload_n 0, 1) := by decide +kernel
theorem dX9_becomes_83 : decode cX9_becomes 83 = .ok (.getfield 26, 3) := by decide +kernel
theorem dX9_becomes_86 : decode cX9_becomes 86 = .ok (.iconst 0, 1) := by decide +kernel
theorem dX9_becomes_87 : decode cX9_becomes 87 = .ok (.iaload, 1) := by decide +kernel
theorem dX9_becomes_88 : decode cX9_becomes 88 = .ok (.i2l, 1) := by decide +kernel
theorem dX9_becomes_89 : decode cX9_becomes 89 = .ok (.goto 4, 3) := by decide +kernel
theorem dX9_becomes_92 : decode cX9_becomes 92 = .ok (.lconst 0, 1) := by decide +kernel
theorem dX9_becomes_93 : decode cX9_becomes 93 = .ok (.lastore, 1) := by decide +kernel
theorem dX9_becomes_94 : decode cX9_becomes 94 = .ok (.iconst 0, 1) := by decide +kernel
theorem dX9_becomes_95 : decode cX9_becomes 95 = .ok (.istore_n 1, 1) := by decide +kernel
theorem dX9_becomes_96 : decode cX9_becomes 96 = .ok (.iload_n 1, 1) := by decide +kernel
theorem dX9_becomes_97 : decode cX9_becomes 97 = .ok (.aload_n 0, 1) := by decide +kernel
theorem dX9_becomes_98 : decode cX9_becomes 98 = .ok (.getfield 64, 3) := by decide +kernel
theorem dX9_becomes_101 : decode cX9_becomes 101 = .ok (.if_icmp .ge 51, 3) := by decide +kernel
theorem dX9_becomes_104 : decode cX9_becomes 104 = .ok (.aload_n 0, 1) := by decide +kernel
theorem dX9_becomes_105 : decode cX9_becomes 105 = .ok (.getfield 19, 3) := by decide +kernel
theorem dX9_becomes_108 : decode cX9_becomes 108 = .ok (.bipush 10, 2) := by decide +kernel
theorem dX9_becomes_110 : decode cX9_becomes 110 = .ok (.iload_n 1, 1) := by decide +kernel
theorem dX9_becomes_111 : decode cX9_becomes 111 = .ok (.iadd, 1) := by decide +kernel
theorem dX9_becomes_112 : decode cX9_becomes 112 = .ok (.aload_n 0, 1) := by decide +kernel
theorem dX9_becomes_113 : decode cX9_becomes 113 = .ok (.getfield 26, 3) := by decide +kernel
theorem dX9_becomes_116 : decode cX9_becomes 116 = .ok (.iconst 4, 1) := by decide +kernel
theorem dX9_becomes_117 : decode cX9_becomes 117 = .ok (.iconst 2, 1) := by decide +kernel
theorem dX9_becomes_118 : decode cX9_becomes 118 = .ok (.iload_n 1, 1) := by decide +kernel
theorem dX9_becomes_119 : decode cX9_becomes 119 = .ok (.imul, 1) := by decide +kernel
theorem dX9_becomes_120 : decode cX9_becomes 120 = .ok (.iadd, 1) := by decide +kernel
theorem dX9_becomes_121 : decode cX9_becomes 121 = .ok (.iaload, 1) := by decide +kernel
theorem dX9_becomes_122 : decode cX9_becomes 122 = .ok (.i2l, 1) := by decide +kernel
theorem dX9_becomes_123 : decode cX9_becomes 123 = .ok (.lastore, 1) := by decide +kernel
theorem dX9_becomes_124 : decode cX9_becomes 124 = .ok (.aload_n 0, 1) := by decide +kernel
theorem dX9_becomes_125 : decode cX9_becomes 125 = .ok (.getfield 19, 3) := by decide +kernel
theorem dX9_becomes_128 : decode cX9_becomes 128 = .ok (.iconst 4, 1) := by decide +kernel
theorem dX9_becomes_129 : decode cX9_becomes 129 = .ok (.dup2, 1) := by decide +kernel
theorem dX9_becomes_130 : decode cX9_becomes 130 = .ok (.laload, 1) := by decide +kernel
theorem dX9_becomes_131 : decode cX9_becomes 131 = .ok (.aload_n 0, 1) := by decide +kernel
theorem dX9_becomes_132 : decode cX9_becomes 132 = .ok (.getfield 26, 3) := by decide +kernel
theorem dX9_becomes_135 : decode cX9_becomes 135 = .ok (.iconst 5, 1) := by decide +kernel
theorem dX9_becomes_136 : decode cX9_becomes 136 = .ok (.iconst 2, 1) := by decide +kernel
theorem dX9_becomes_137 : decode cX9_becomes 137 = .ok (.iload_n 1, 1) := by decide +kernel
theorem dX9_becomes_138 : decode cX9_becomes 138 = .ok (.imul, 1) := by decide +kernel
theorem dX9_becomes_139 : decode cX9_becomes 139 = .ok (.iadd, 1) := by decide +kernel
theorem dX9_becomes_140 : decode cX9_becomes 140 = .ok (.iaload, 1) := by decide +kernel
theorem dX9_becomes_141 : decode cX9_becomes 141 = .ok (.i2l, 1) := by decide +kernel
theorem dX9_becomes_142 : decode cX9_becomes 142 = .ok (.iload_n 1, 1) := by decide +kernel
theorem dX9_becomes_143 : decode cX9_becomes 143 = .ok (.lshl, 1) := by decide +kernel
theorem dX9_becomes_144 : decode cX9_becomes 144 = .ok (.lor, 1) := by decide +kernel
theorem dX9_becomes_145 : decode cX9_becomes 145 = .ok (.lastore, 1) := by decide +kernel
theorem dX9_becomes_146 : decode cX9_becomes 146 = .ok (.iinc 1 1, 3) := by decide +kernel
theorem dX9_becomes_149 : decode cX9_becomes 149 = .ok (.goto (-53), 3) := by decide +kernel
theorem dX9_becomes_152 : decode cX9_becomes 152 = .ok (.iconst 0, 1) := by decide +kernel
theorem dX9_becomes_153 : decode cX9_becomes 153 = .ok (.istore_n 1, 1) := by decide +kernel
theorem dX9_becomes_154 : decode cX9_becomes 154 = .ok (.iload_n 1, 1) := by decide +kernel
theorem dX9_becomes_155 : decode cX9_becomes 155 = .ok (.aload_n 0, 1) := by decide +kernel
theorem dX9_becomes_156 : decode cX9_becomes 156 = .ok (.getfield 71, 3) := by decide +kernel
theorem dX9_becomes_159 : decode cX9_becomes 159 = .ok (.if_icmp .ge 43, 3) := by decide +kernel
theorem dX9_becomes_162 : decode cX9_becomes 162 = .ok (.aload_n 0, 1) := by decide +kernel
theorem dX9_becomes_163 : decode cX9_becomes 163 = .ok (.getfield 7, 3) := by decide +kernel
theorem dX9_becomes_166 : decode cX9_becomes 166 = .ok (.iload_n 1, 1) := by decide +kernel
theorem dX9_becomes_167 : decode cX9_becomes 167 = .ok (.aload_n 0, 1) := by decide +kernel
theorem dX9_becomes_168 : decode cX9_becomes 168 = .ok (.getfield 26, 3) := by decide +kernel
theorem dX9_becomes_171 : decode cX9_becomes 171 = .ok (.bipush 20, 2) := by decide +kernel
theorem dX9_becomes_173 : decode cX9_becomes 173 = .ok (.iconst 2, 1) := by decide +kernel
theorem dX9_becomes_174 : decode cX9_becomes 174 = .ok (.iload_n 1, 1) := by decide +kernel
theorem dX9_becomes_175 : decode cX9_becomes 175 = .ok (.imul, 1) := by decide +kernel
theorem dX9_becomes_176 : decode cX9_becomes 176 = .ok (.iadd, 1) := by decide +kernel
theorem dX9_becomes_177 : decode cX9_becomes 177 = .ok (.iaload, 1) := by decide +kernel
theorem dX9_becomes_178 : decode cX9_becomes 178 = .ok (.iastore, 1) := by decide +kernel
theorem dX9_becomes_179 : decode cX9_becomes 179 = .ok (.aload_n 0, 1) := by decide +kernel
theorem dX9_becomes_180 : decode cX9_becomes 180 = .ok (.getfield 13, 3) := by decide +kernel
theorem dX9_becomes_183 : decode cX9_becomes 183 = .ok (.iload_n 1, 1) := by decide +kernel
theorem dX9_becomes_184 : decode cX9_becomes 184 = .ok (.aload_n 0, 1) := by decide +kernel
theorem dX9_becomes_185 : decode cX9_becomes 185 = .ok (.getfield 26, 3) := by decide +kernel
theorem dX9_becomes_188 : decode cX9_becomes 188 = .ok (.bipush 21, 2) := by decide +kernel
theorem dX9_becomes_190 : decode cX9_becomes 190 = .ok (.iconst 2, 1) := by decide +kernel
theorem dX9_becomes_191 : decode cX9_becomes 191 = .ok (.iload_n 1, 1) := by decide +kernel
theorem dX9_becomes_192 : decode cX9_becomes 192 = .ok (.imul, 1) := by decide +kernel
theorem dX9_becomes_193 : decode cX9_becomes 193 = .ok (.iadd, 1) := by decide +kernel
theorem dX9_becomes_194 : decode cX9_becomes 194 = .ok (.iaload, 1) := by decide +kernel
theorem dX9_becomes_195 : decode cX9_becomes 195 = .ok (.iastore, 1) := by decide +kernel
theorem dX9_becomes_196 : decode cX9_becomes 196 = .ok (.iinc 1 1, 3) := by decide +kernel
theorem dX9_becomes_199 : decode cX9_becomes 199 = .ok (.goto (-45), 3) := by decide +kernel
theorem dX9_becomes_202 : decode cX9_becomes 202 = .ok (.iconst 0, 1) := by decide +kernel
theorem dX9_becomes_203 : decode cX9_becomes 203 = .ok (.istore_n 1, 1) := by decide +kernel
theorem dX9_becomes_204 : decode cX9_becomes 204 = .ok (.iload_n 1, 1) := by decide +kernel
theorem dX9_becomes_205 : decode cX9_becomes 205 = .ok (.aload_n 0, 1) := by decide +kernel
theorem dX9_becomes_206 : decode cX9_becomes 206 = .ok (.getfield 74, 3) := by decide +kernel
theorem dX9_becomes_209 : decode cX9_becomes 209 = .ok (.if_icmp .ge 47, 3) := by decide +kernel
theorem dX9_becomes_212 : decode cX9_becomes 212 = .ok (.aload_n 0, 1) := by decide +kernel
theorem dX9_becomes_213 : decode cX9_becomes 213 = .ok (.getfield 19, 3) := by decide +kernel
theorem dX9_becomes_216 : decode cX9_becomes 216 = .ok (.bipush 26, 2) := by decide +kernel
theorem dX9_becomes_218 : decode cX9_becomes 218 = .ok (.iload_n 1, 1) := by decide +kernel
theorem dX9_becomes_219 : decode cX9_becomes 219 = .ok (.iadd, 1) := by decide +kernel
theorem dX9_becomes_220 : decode cX9_becomes 220 = .ok (.aload_n 0, 1) := by decide +kernel
theorem dX9_becomes_221 : decode cX9_becomes 221 = .ok (.getfield 26, 3) := by decide +kernel
theorem dX9_becomes_224 : decode cX9_becomes 224 = .ok (.bipush 44, 2) := by decide +kernel
theorem dX9_becomes_226 : decode cX9_becomes 226 = .ok (.iconst 2, 1) := by decide +kernel
theorem dX9_becomes_227 : decode cX9_becomes 227 = .ok (.iload_n 1, 1) := by decide +kernel
theorem dX9_becomes_228 : decode cX9_becomes 228 = .ok (.imul, 1) := by decide +kernel
theorem dX9_becomes_229 : decode cX9_becomes 229 = .ok (.iadd, 1) := by decide +kernel
theorem dX9_becomes_230 : decode cX9_becomes 230 = .ok (.iaload, 1) := by decide +kernel
theorem dX9_becomes_231 : decode cX9_becomes 231 = .ok (.i2l, 1) := by decide +kernel
theorem dX9_becomes_232 : decode cX9_becomes 232 = .ok (.lastore, 1) := by decide +kernel
theorem dX9_becomes_233 : decode cX9_becomes 233 = .ok (.aload_n 0, 1) := by decide +kernel
theorem dX9_becomes_234 : decode cX9_becomes 234 = .ok (.getfield 16, 3) := by decide +kernel
theorem dX9_becomes_237 : decode cX9_becomes 237 = .ok (.iload_n 1, 1) := by decide +kernel
theorem dX9_becomes_238 : decode cX9_becomes 238 = .ok (.aload_n 0, 1) := by decide +kernel
theorem dX9_becomes_239 : decode cX9_becomes 239 = .ok (.getfield 26, 3) := by decide +kernel
theorem dX9_becomes_242 : decode cX9_becomes 242 = .ok (.bipush 45, 2) := by decide +kernel
theorem dX9_becomes_244 : decode cX9_becomes 244 = .ok (.iconst 2, 1) := by decide +kernel
theorem dX9_becomes_245 : decode cX9_becomes 245 = .ok (.iload_n 1, 1) := by decide +kernel
theorem dX9_becomes_246 : decode cX9_becomes 246 = .ok (.imul, 1) := by decide +kernel
theorem dX9_becomes_247 : decode cX9_becomes 247 = .ok (.iadd, 1) := by decide +kernel
theorem dX9_becomes_248 : decode cX9_becomes 248 = .ok (.iaload, 1) := by decide +kernel
theorem dX9_becomes_249 : decode cX9_becomes 249 = .ok (.iastore, 1) := by decide +kernel
theorem dX9_becomes_250 : decode cX9_becomes 250 = .ok (.iinc 1 1, 3) := by decide +kernel
theorem dX9_becomes_253 : decode cX9_becomes 253 = .ok (.goto (-49), 3) := by decide +kernel
theorem dX9_becomes_256 : decode cX9_becomes 256 = .ok (.aload_n 0, 1) := by decide +kernel
theorem dX9_becomes_257 : decode cX9_becomes 257 = .ok (.iconst 0, 1) := by decide +kernel
theorem dX9_becomes_258 : decode cX9_becomes 258 = .ok (.putfield 190, 3) := by decide +kernel
theorem dX9_becomes_261 : decode cX9_becomes 261 = .ok (.aload_n 0, 1) := by decide +kernel
theorem dX9_becomes_262 : decode cX9_becomes 262 = .ok (.iconst 0, 1) := by decide +kernel
theorem dX9_becomes_263 : decode cX9_becomes 263 = .ok (.putfield 193, 3) := by decide +kernel
theorem dX9_becomes_266 : decode cX9_becomes 266 = .ok (.aload_n 0, 1) := by decide +kernel
theorem dX9_becomes_267 : decode cX9_becomes 267 = .ok (.getfield 57, 3) := by decide +kernel
theorem dX9_becomes_270 : decode cX9_becomes 270 = .ok (.iconst 0, 1) := by decide +kernel
theorem dX9_becomes_271 : decode cX9_becomes 271 = .ok (.iconst 0, 1) := by decide +kernel
theorem dX9_becomes_272 : decode cX9_becomes 272 = .ok (.bastore, 1) := by decide +kernel
theorem dX9_becomes_273 : decode cX9_becomes 273 = .ok (.aload_n 0, 1) := by decide +kernel
theorem dX9_becomes_274 : decode cX9_becomes 274 = .ok (.getfield 57, 3) := by decide +kernel
theorem dX9_becomes_277 : decode cX9_becomes 277 = .ok (.iconst 1, 1) := by decide +kernel
theorem dX9_becomes_278 : decode cX9_becomes 278 = .ok (.iconst 0, 1) := by decide +kernel
theorem dX9_becomes_279 : decode cX9_becomes 279 = .ok (.bastore, 1) := by decide +kernel
theorem dX9_becomes_280 : decode cX9_becomes 280 = .ok (.return_, 1) := by decide +kernel
theorem dX9_palace_0 : decode cX9_palace 0 = .ok (.aload_n 0, 1) := by decide +kernel
theorem dX9_palace_1 : decode cX9_palace 1 = .ok (.iconst 0, 1) := by decide +kernel
theorem dX9_palace_2 : decode cX9_palace 2 = .ok (.putfield 147, 3) := by decide +kernel
theorem dX9_palace_5 : decode cX9_palace 5 = .ok (.aload_n 0, 1) := by decide +kernel
theorem dX9_palace_6 : decode cX9_palace 6 = .ok (.iconst 0, 1) := by decide +kernel
theorem dX9_palace_7 : decode cX9_palace 7 = .ok (.putfield 154, 3) := by decide +kernel
theorem dX9_palace_10 : decode cX9_palace 10 = .ok (.aload_n 0, 1) := by decide +kernel
theorem dX9_palace_11 : decode cX9_palace 11 = .ok (.getfield 26, 3) := by decide +kernel
theorem dX9_palace_14 : decode cX9_palace 14 = .ok (.iconst 0, 1) := by decide +kernel
theorem dX9_palace_15 : decode cX9_palace 15 = .ok (.iconst (-1), 1) := by decide +kernel
theorem dX9_palace_16 : decode cX9_palace 16 = .ok (.iastore, 1) := by decide +kernel
theorem dX9_palace_17 : decode cX9_palace 17 = .ok (.iconst 1, 1) := by decide +kernel
theorem dX9_palace_18 : decode cX9_palace 18 = .ok (.istore_n 1, 1) := by decide +kernel
theorem dX9_palace_19 : decode cX9_palace 19 = .ok (.iload_n 1, 1) := by decide +kernel
theorem dX9_palace_20 : decode cX9_palace 20 = .ok (.iconst 4, 1) := by decide +kernel
theorem dX9_palace_21 : decode cX9_palace 21 = .ok (.if_icmp .ge 16, 3) := by decide +kernel
theorem dX9_palace_24 : decode cX9_palace 24 = .ok (.aload_n 0, 1) := by decide +kernel
theorem dX9_palace_25 : decode cX9_palace 25 = .ok (.getfield 26, 3) := by decide +kernel
theorem dX9_palace_28 : decode cX9_palace 28 = .ok (.iload_n 1, 1) := by decide +kernel
theorem dX9_palace_29 : decode cX9_palace 29 = .ok (.iconst 0, 1) := by decide +kernel
theorem dX9_palace_30 : decode cX9_palace 30 = .ok (.iastore, 1) := by decide +kernel
theorem dX9_palace_31 : decode cX9_palace 31 = .ok (.iinc 1 1, 3) := by decide +kernel
theorem dX9_palace_34 : decode cX9_palace 34 = .ok (.goto (-15), 3) := by decide +kernel
theorem dX9_palace_37 : decode cX9_palace 37 = .ok (.aload_n 0, 1) := by decide +kernel
theorem dX9_palace_38 : decode cX9_palace 38 = .ok (.invokevirtual 157, 3) := by decide +kernel
theorem dX9_palace_41 : decode cX9_palace 41 = .ok (.iconst (-1), 1) := by decide +kernel
theorem dX9_palace_42 : decode cX9_palace 42 = .ok (.if_icmp .eq 7, 3) := by decide +kernel
theorem dX9_palace_45 : decode cX9_palace 45 = .ok (.iconst 1, 1) := by decide +kernel
theorem dX9_palace_46 : decode cX9_palace 46 = .ok (.goto 4, 3) := by decide +kernel
theorem dX9_palace_49 : decode cX9_palace 49 = .ok (.iconst 0, 1) := by decide +kernel
theorem dX9_palace_50 : decode cX9_palace 50 = .ok (.istore_n 1, 1) := by decide +kernel
theorem dX9_palace_51 : decode cX9_palace 51 = .ok (.iload_n 1, 1) := by decide +kernel
theorem dX9_palace_52 : decode cX9_palace 52 = .ok (.ifCond .eq 31, 3) := by decide +kernel
theorem dX9_palace_55 : decode cX9_palace 55 = .ok (.aload_n 0, 1) := by decide +kernel
theorem dX9_palace_56 : decode cX9_palace 56 = .ok (.invokevirtual 196, 3) := by decide +kernel
theorem dX9_palace_59 : decode cX9_palace 59 = .ok (.aload_n 0, 1) := by decide +kernel
theorem dX9_palace_60 : decode cX9_palace 60 = .ok (.getfield 154, 3) := by decide +kernel
theorem dX9_palace_63 : decode cX9_palace 63 = .ok (.ifCond .ne 15, 3) := by decide +kernel
theorem dX9_palace_66 : decode cX9_palace 66 = .ok (.aload_n 0, 1) := by decide +kernel
theorem dX9_palace_67 : decode cX9_palace 67 = .ok (.invokevirtual 157, 3) := by decide +kernel
theorem dX9_palace_70 : decode cX9_palace 70 = .ok (.iconst (-1), 1) := by decide +kernel
theorem dX9_palace_71 : decode cX9_palace 71 = .ok (.if_icmp .eq 7, 3) := by decide +kernel
theorem dX9_palace_74 : decode cX9_palace 74 = .ok (.iconst 1, 1) := by decide +kernel
theorem dX9_palace_75 : decode cX9_palace 75 = .ok (.goto 4, 3) := by decide +kernel
theorem dX9_palace_78 : decode cX9_palace 78 = .ok (.iconst 0, 1) := by decide +kernel
theorem dX9_palace_79 : decode cX9_palace 79 = .ok (.istore_n 1, 1) := by decide +kernel
theorem dX9_palace_80 : decode cX9_palace 80 = .ok (.goto (-29), 3) := by decide +kernel
theorem dX9_palace_83 : decode cX9_palace 83 = .ok (.aload_n 0, 1) := by decide +kernel
theorem dX9_palace_84 : decode cX9_palace 84 = .ok (.iconst 0, 1) := by decide +kernel
theorem dX9_palace_85 : decode cX9_palace 85 = .ok (.putfield 143, 3) := by decide +kernel
theorem dX9_palace_88 : decode cX9_palace 88 = .ok (.aload_n 0, 1) := by decide +kernel
theorem dX9_palace_89 : decode cX9_palace 89 = .ok (.aload_n 0, 1) := by decide +kernel
theorem dX9_palace_90 : decode cX9_palace 90 = .ok (.getfield 154, 3) := by decide +kernel
theorem dX9_palace_93 : decode cX9_palace 93 = .ok (.ifCond .ne 7, 3) := by decide +kernel
theorem dX9_palace_96 : decode cX9_palace 96 = .ok (.iconst (-1), 1) := by decide +kernel
theorem dX9_palace_97 : decode cX9_palace 97 = .ok (.goto 7, 3) := by decide +kernel
theorem dX9_palace_100 : decode cX9_palace 100 = .ok (.aload_n 0, 1) := by decide +kernel
theorem dX9_palace_101 : decode cX9_palace 101 = .ok (.getfield 147, 3) := by decide +kernel
theorem dX9_palace_104 : decode cX9_palace 104 = .ok (.putfield 60, 3) := by decide +kernel
theorem dX9_palace_107 : decode cX9_palace 107 = .ok (.aload_n 0, 1) := by decide +kernel
theorem dX9_palace_108 : decode cX9_palace 108 = .ok (.getfield 154, 3) := by decide +kernel
theorem dX9_palace_111 : decode cX9_palace 111 = .ok (.ifCond .le 11, 3) := by decide +kernel
theorem dX9_palace_114 : decode cX9_palace 114 = .ok (.bipush (-10), 2) := by decide +kernel
theorem dX9_palace_116 : decode cX9_palace 116 = .ok (.aload_n 0, 1) := by decide +kernel
theorem dX9_palace_117 : decode cX9_palace 117 = .ok (.getfield 154, 3) := by decide +kernel
theorem dX9_palace_120 : decode cX9_palace 120 = .ok (.isub, 1) := by decide +kernel
theorem dX9_palace_121 : decode cX9_palace 121 = .ok (.ireturn, 1) := by decide +kernel
theorem dX9_palace_122 : decode cX9_palace 122 = .ok (.aload_n 0, 1) := by decide +kernel
theorem dX9_palace_123 : decode cX9_palace 123 = .ok (.invokevirtual 199, 3) := by decide +kernel
theorem dX9_palace_126 : decode cX9_palace 126 = .ok (.aload_n 0, 1) := by decide +kernel
theorem dX9_palace_127 : decode cX9_palace 127 = .ok (.getfield 64, 3) := by decide +kernel
theorem dX9_palace_130 : decode cX9_palace 130 = .ok (.ireturn, 1) := by decide +kernel
theorem dX9_fault_0 : decode cX9_fault 0 = .ok (.aload_n 0, 1) := by decide +kernel
theorem dX9_fault_1 : decode cX9_fault 1 = .ok (.getfield 60, 3) := by decide +kernel
theorem dX9_fault_4 : decode cX9_fault 4 = .ok (.ireturn, 1) := by decide +kernel
theorem dX9_told_0 : decode cX9_told 0 = .ok (.iload_n 1, 1) := by decide +kernel
theorem dX9_told_1 : decode cX9_told 1 = .ok (.tableswitch 195 0 15 #[79, 84, 89, 94, 99, 116, 122, 139, 145, 151, 157, 164, 171, 178, 185, 190], 79) := by decide +kernel
theorem dX9_told_80 : decode cX9_told 80 = .ok (.aload_n 0, 1) := by decide +kernel
theorem dX9_told_81 : decode cX9_told 81 = .ok (.getfield 64, 3) := by decide +kernel
theorem dX9_told_84 : decode cX9_told 84 = .ok (.ireturn, 1) := by decide +kernel
theorem dX9_told_85 : decode cX9_told 85 = .ok (.aload_n 0, 1) := by decide +kernel
theorem dX9_told_86 : decode cX9_told 86 = .ok (.getfield 71, 3) := by decide +kernel
theorem dX9_told_89 : decode cX9_told 89 = .ok (.ireturn, 1) := by decide +kernel
theorem dX9_told_90 : decode cX9_told 90 = .ok (.aload_n 0, 1) := by decide +kernel
theorem dX9_told_91 : decode cX9_told 91 = .ok (.getfield 74, 3) := by decide +kernel
theorem dX9_told_94 : decode cX9_told 94 = .ok (.ireturn, 1) := by decide +kernel
theorem dX9_told_95 : decode cX9_told 95 = .ok (.aload_n 0, 1) := by decide +kernel
theorem dX9_told_96 : decode cX9_told 96 = .ok (.getfield 143, 3) := by decide +kernel
theorem dX9_told_99 : decode cX9_told 99 = .ok (.ireturn, 1) := by decide +kernel
theorem dX9_told_100 : decode cX9_told 100 = .ok (.aload_n 0, 1) := by decide +kernel
theorem dX9_told_101 : decode cX9_told 101 = .ok (.getfield 186, 3) := by decide +kernel
theorem dX9_told_104 : decode cX9_told 104 = .ok (.ifCond .eq 11, 3) := by decide +kernel
theorem dX9_told_107 : decode cX9_told 107 = .ok (.aload_n 0, 1) := by decide +kernel
theorem dX9_told_108 : decode cX9_told 108 = .ok (.iconst 0, 1) := by decide +kernel
theorem dX9_told_109 : decode cX9_told 109 = .ok (.invokevirtual 97, 3) := by decide +kernel
theorem dX9_told_112 : decode cX9_told 112 = .ok (.goto 4, 3) := by decide +kernel
theorem dX9_told_115 : decode cX9_told 115 = .ok (.iconst (-1), 1) := by decide +kernel
theorem dX9_told_116 : decode cX9_told 116 = .ok (.ireturn, 1) := by decide +kernel
theorem dX9_told_117 : decode cX9_told 117 = .ok (.aload_n 0, 1) := by decide +kernel
theorem dX9_told_118 : decode cX9_told 118 = .ok (.iconst 1, 1) := by decide +kernel
theorem dX9_told_119 : decode cX9_told 119 = .ok (.invokevirtual 97, 3) := by decide +kernel
theorem dX9_told_122 : decode cX9_told 122 = .ok (.ireturn, 1) := by decide +kernel
theorem dX9_told_123 : decode cX9_told 123 = .ok (.aload_n 0, 1) := by decide +kernel
theorem dX9_told_124 : decode cX9_told 124 = .ok (.getfield 64, 3) := by decide +kernel
theorem dX9_told_127 : decode cX9_told 127 = .ok (.ifCond .ne 7, 3) := by decide +kernel
theorem dX9_told_130 : decode cX9_told 130 = .ok (.iconst (-1), 1) := by decide +kernel
theorem dX9_told_131 : decode cX9_told 131 = .ok (.goto 8, 3) := by decide +kernel
theorem dX9_told_134 : decode cX9_told 134 = .ok (.aload_n 0, 1) := by decide +kernel
theorem dX9_told_135 : decode cX9_told 135 = .ok (.iconst 2, 1) := by decide +kernel
theorem dX9_told_136 : decode cX9_told 136 = .ok (.invokevirtual 97, 3) := by decide +kernel
theorem dX9_told_139 : decode cX9_told 139 = .ok (.ireturn, 1) := by decide +kernel
theorem dX9_told_140 : decode cX9_told 140 = .ok (.aload_n 0, 1) := by decide +kernel
theorem dX9_told_141 : decode cX9_told 141 = .ok (.iconst 3, 1) := by decide +kernel
theorem dX9_told_142 : decode cX9_told 142 = .ok (.invokevirtual 97, 3) := by decide +kernel
theorem dX9_told_145 : decode cX9_told 145 = .ok (.ireturn, 1) := by decide +kernel
theorem dX9_told_146 : decode cX9_told 146 = .ok (.aload_n 0, 1) := by decide +kernel
theorem dX9_told_147 : decode cX9_told 147 = .ok (.iconst 4, 1) := by decide +kernel
theorem dX9_told_148 : decode cX9_told 148 = .ok (.invokevirtual 97, 3) := by decide +kernel
theorem dX9_told_151 : decode cX9_told 151 = .ok (.ireturn, 1) := by decide +kernel
theorem dX9_told_152 : decode cX9_told 152 = .ok (.aload_n 0, 1) := by decide +kernel
theorem dX9_told_153 : decode cX9_told 153 = .ok (.iconst 5, 1) := by decide +kernel
theorem dX9_told_154 : decode cX9_told 154 = .ok (.invokevirtual 97, 3) := by decide +kernel
theorem dX9_told_157 : decode cX9_told 157 = .ok (.ireturn, 1) := by decide +kernel
theorem dX9_told_158 : decode cX9_told 158 = .ok (.aload_n 0, 1) := by decide +kernel
theorem dX9_told_159 : decode cX9_told 159 = .ok (.bipush 6, 2) := by decide +kernel
theorem dX9_told_161 : decode cX9_told 161 = .ok (.invokevirtual 97, 3) := by decide +kernel
theorem dX9_told_164 : decode cX9_told 164 = .ok (.ireturn, 1) := by decide +kernel
theorem dX9_told_165 : decode cX9_told 165 = .ok (.aload_n 0, 1) := by decide +kernel
theorem dX9_told_166 : decode cX9_told 166 = .ok (.bipush 7, 2) := by decide +kernel
theorem dX9_told_168 : decode cX9_told 168 = .ok (.invokevirtual 97, 3) := by decide +kernel
theorem dX9_told_171 : decode cX9_told 171 = .ok (.ireturn, 1) := by decide +kernel
theorem dX9_told_172 : decode cX9_told 172 = .ok (.aload_n 0, 1) := by decide +kernel
theorem dX9_told_173 : decode cX9_told 173 = .ok (.bipush 8, 2) := by decide +kernel
theorem dX9_told_175 : decode cX9_told 175 = .ok (.invokevirtual 97, 3) := by decide +kernel
theorem dX9_told_178 : decode cX9_told 178 = .ok (.ireturn, 1) := by decide +kernel
theorem dX9_told_179 : decode cX9_told 179 = .ok (.aload_n 0, 1) := by decide +kernel
theorem dX9_told_180 : decode cX9_told 180 = .ok (.bipush 9, 2) := by decide +kernel
theorem dX9_told_182 : decode cX9_told 182 = .ok (.invokevirtual 97, 3) := by decide +kernel
theorem dX9_told_185 : decode cX9_told 185 = .ok (.ireturn, 1) := by decide +kernel
theorem dX9_told_186 : decode cX9_told 186 = .ok (.aload_n 0, 1) := by decide +kernel
theorem dX9_told_187 : decode cX9_told 187 = .ok (.getfield 190, 3) := by decide +kernel
theorem dX9_told_190 : decode cX9_told 190 = .ok (.ireturn, 1) := by decide +kernel
theorem dX9_told_191 : decode cX9_told 191 = .ok (.aload_n 0, 1) := by decide +kernel
theorem dX9_told_192 : decode cX9_told 192 = .ok (.getfield 193, 3) := by decide +kernel
theorem dX9_told_195 : decode cX9_told 195 = .ok (.ireturn, 1) := by decide +kernel
theorem dX9_told_196 : decode cX9_told 196 = .ok (.ldc 142, 2) := by decide +kernel
theorem dX9_told_198 : decode cX9_told 198 = .ok (.ireturn, 1) := by decide +kernel
theorem dX9_beside_0 : decode cX9_beside 0 = .ok (.iconst 0, 1) := by decide +kernel
theorem dX9_beside_1 : decode cX9_beside 1 = .ok (.istore_n 2, 1) := by decide +kernel
theorem dX9_beside_2 : decode cX9_beside 2 = .ok (.iconst 0, 1) := by decide +kernel
theorem dX9_beside_3 : decode cX9_beside 3 = .ok (.istore_n 3, 1) := by decide +kernel
theorem dX9_beside_4 : decode cX9_beside 4 = .ok (.iload_n 3, 1) := by decide +kernel
theorem dX9_beside_5 : decode cX9_beside 5 = .ok (.aload_n 0, 1) := by decide +kernel
theorem dX9_beside_6 : decode cX9_beside 6 = .ok (.getfield 64, 3) := by decide +kernel
theorem dX9_beside_9 : decode cX9_beside 9 = .ok (.if_icmp .ge 48, 3) := by decide +kernel
theorem dX9_beside_12 : decode cX9_beside 12 = .ok (.aload_n 0, 1) := by decide +kernel
theorem dX9_beside_13 : decode cX9_beside 13 = .ok (.iload_n 1, 1) := by decide +kernel
theorem dX9_beside_14 : decode cX9_beside 14 = .ok (.iload_n 3, 1) := by decide +kernel
theorem dX9_beside_15 : decode cX9_beside 15 = .ok (.invokevirtual 81, 3) := by decide +kernel
theorem dX9_beside_18 : decode cX9_beside 18 = .ok (.istore 4, 2) := by decide +kernel
theorem dX9_beside_20 : decode cX9_beside 20 = .ok (.iload_n 2, 1) := by decide +kernel
theorem dX9_beside_21 : decode cX9_beside 21 = .ok (.iload 4, 2) := by decide +kernel
theorem dX9_beside_23 : decode cX9_beside 23 = .ok (.iconst (-1), 1) := by decide +kernel
theorem dX9_beside_24 : decode cX9_beside 24 = .ok (.if_icmp .eq 24, 3) := by decide +kernel
theorem dX9_beside_27 : decode cX9_beside 27 = .ok (.aload_n 0, 1) := by decide +kernel
theorem dX9_beside_28 : decode cX9_beside 28 = .ok (.getfield 19, 3) := by decide +kernel
theorem dX9_beside_31 : decode cX9_beside 31 = .ok (.bipush 6, 2) := by decide +kernel
theorem dX9_beside_33 : decode cX9_beside 33 = .ok (.laload, 1) := by decide +kernel
theorem dX9_beside_34 : decode cX9_beside 34 = .ok (.iload 4, 2) := by decide +kernel
theorem dX9_beside_36 : decode cX9_beside 36 = .ok (.invokestatic 85, 3) := by decide +kernel
theorem dX9_beside_39 : decode cX9_beside 39 = .ok (.ifCond .ne 9, 3) := by decide +kernel
theorem dX9_beside_42 : decode cX9_beside 42 = .ok (.iconst 1, 1) := by decide +kernel
theorem dX9_beside_43 : decode cX9_beside 43 = .ok (.iload_n 3, 1) := by decide +kernel
theorem dX9_beside_44 : decode cX9_beside 44 = .ok (.ishl, 1) := by decide +kernel
theorem dX9_beside_45 : decode cX9_beside 45 = .ok (.goto 4, 3) := by decide +kernel
theorem dX9_beside_48 : decode cX9_beside 48 = .ok (.iconst 0, 1) := by decide +kernel
theorem dX9_beside_49 : decode cX9_beside 49 = .ok (.ior, 1) := by decide +kernel
theorem dX9_beside_50 : decode cX9_beside 50 = .ok (.istore_n 2, 1) := by decide +kernel
theorem dX9_beside_51 : decode cX9_beside 51 = .ok (.iinc 3 1, 3) := by decide +kernel
theorem dX9_beside_54 : decode cX9_beside 54 = .ok (.goto (-50), 3) := by decide +kernel
theorem dX9_beside_57 : decode cX9_beside 57 = .ok (.iload_n 2, 1) := by decide +kernel
theorem dX9_beside_58 : decode cX9_beside 58 = .ok (.ireturn, 1) := by decide +kernel
theorem dX9_room_0 : decode cX9_room 0 = .ok (.aload_n 0, 1) := by decide +kernel
theorem dX9_room_1 : decode cX9_room 1 = .ok (.iload_n 1, 1) := by decide +kernel
theorem dX9_room_2 : decode cX9_room 2 = .ok (.invokevirtual 202, 3) := by decide +kernel
theorem dX9_room_5 : decode cX9_room 5 = .ok (.ifCond .ne 6, 3) := by decide +kernel
theorem dX9_room_8 : decode cX9_room 8 = .ok (.ldc 205, 2) := by decide +kernel
theorem dX9_room_10 : decode cX9_room 10 = .ok (.ireturn, 1) := by decide +kernel
theorem dX9_room_11 : decode cX9_room 11 = .ok (.iload_n 2, 1) := by decide +kernel
theorem dX9_room_12 : decode cX9_room 12 = .ok (.tableswitch 123 0 4 #[36, 45, 54, 98, 104], 36) := by decide +kernel
theorem dX9_room_48 : decode cX9_room 48 = .ok (.aload_n 0, 1) := by decide +kernel
theorem dX9_room_49 : decode cX9_room 49 = .ok (.bipush 10, 2) := by decide +kernel
theorem dX9_room_51 : decode cX9_room 51 = .ok (.iload_n 1, 1) := by decide +kernel
theorem dX9_room_52 : decode cX9_room 52 = .ok (.iadd, 1) := by decide +kernel
theorem dX9_room_53 : decode cX9_room 53 = .ok (.invokevirtual 97, 3) := by decide +kernel
theorem dX9_room_56 : decode cX9_room 56 = .ok (.ireturn, 1) := by decide +kernel
theorem dX9_room_57 : decode cX9_room 57 = .ok (.aload_n 0, 1) := by decide +kernel
theorem dX9_room_58 : decode cX9_room 58 = .ok (.bipush 18, 2) := by decide +kernel
theorem dX9_room_60 : decode cX9_room 60 = .ok (.iload_n 1, 1) := by decide +kernel
theorem dX9_room_61 : decode cX9_room 61 = .ok (.iadd, 1) := by decide +kernel
theorem dX9_room_62 : decode cX9_room 62 = .ok (.invokevirtual 97, 3) := by decide +kernel
theorem dX9_room_65 : decode cX9_room 65 = .ok (.ireturn, 1) := by decide +kernel
theorem dX9_room_66 : decode cX9_room 66 = .ok (.aload_n 0, 1) := by decide +kernel
theorem dX9_room_67 : decode cX9_room 67 = .ok (.iconst 0, 1) := by decide +kernel
theorem dX9_room_68 : decode cX9_room 68 = .ok (.invokevirtual 97, 3) := by decide +kernel
theorem dX9_room_71 : decode cX9_room 71 = .ok (.aload_n 0, 1) := by decide +kernel
theorem dX9_room_72 : decode cX9_room 72 = .ok (.bipush 10, 2) := by decide +kernel
theorem dX9_room_74 : decode cX9_room 74 = .ok (.iload_n 1, 1) := by decide +kernel
theorem dX9_room_75 : decode cX9_room 75 = .ok (.iadd, 1) := by decide +kernel
theorem dX9_room_76 : decode cX9_room 76 = .ok (.invokevirtual 97, 3) := by decide +kernel
theorem dX9_room_79 : decode cX9_room 79 = .ok (.aload_n 0, 1) := by decide +kernel
theorem dX9_room_80 : decode cX9_room 80 = .ok (.getfield 19, 3) := by decide +kernel
theorem dX9_room_83 : decode cX9_room 83 = .ok (.iconst 4, 1) := by decide +kernel
theorem dX9_room_84 : decode cX9_room 84 = .ok (.laload, 1) := by decide +kernel
theorem dX9_room_85 : decode cX9_room 85 = .ok (.iload_n 1, 1) := by decide +kernel
theorem dX9_room_86 : decode cX9_room 86 = .ok (.invokestatic 85, 3) := by decide +kernel
theorem dX9_room_89 : decode cX9_room 89 = .ok (.aload_n 0, 1) := by decide +kernel
theorem dX9_room_90 : decode cX9_room 90 = .ok (.invokevirtual 105, 3) := by decide +kernel
theorem dX9_room_93 : decode cX9_room 93 = .ok (.iconst 4, 1) := by decide +kernel
theorem dX9_room_94 : decode cX9_room 94 = .ok (.iload_n 1, 1) := by decide +kernel
theorem dX9_room_95 : decode cX9_room 95 = .ok (.imul, 1) := by decide +kernel
theorem dX9_room_96 : decode cX9_room 96 = .ok (.lshr, 1) := by decide +kernel
theorem dX9_room_97 : decode cX9_room 97 = .ok (.ldc2_w 89, 3) := by decide +kernel
theorem dX9_room_100 : decode cX9_room 100 = .ok (.land, 1) := by decide +kernel
theorem dX9_room_101 : decode cX9_room 101 = .ok (.l2i, 1) := by decide +kernel
theorem dX9_room_102 : decode cX9_room 102 = .ok (.aload_n 0, 1) := by decide +kernel
theorem dX9_room_103 : decode cX9_room 103 = .ok (.invokevirtual 108, 3) := by decide +kernel
theorem dX9_room_106 : decode cX9_room 106 = .ok (.invokestatic 91, 3) := by decide +kernel
theorem dX9_room_109 : decode cX9_room 109 = .ok (.ireturn, 1) := by decide +kernel
theorem dX9_room_110 : decode cX9_room 110 = .ok (.aload_n 0, 1) := by decide +kernel
theorem dX9_room_111 : decode cX9_room 111 = .ok (.iload_n 1, 1) := by decide +kernel
theorem dX9_room_112 : decode cX9_room 112 = .ok (.invokevirtual 206, 3) := by decide +kernel
theorem dX9_room_115 : decode cX9_room 115 = .ok (.ireturn, 1) := by decide +kernel
theorem dX9_room_116 : decode cX9_room 116 = .ok (.aload_n 0, 1) := by decide +kernel
theorem dX9_room_117 : decode cX9_room 117 = .ok (.getfield 19, 3) := by decide +kernel
theorem dX9_room_120 : decode cX9_room 120 = .ok (.iconst 5, 1) := by decide +kernel
theorem dX9_room_121 : decode cX9_room 121 = .ok (.laload, 1) := by decide +kernel
theorem dX9_room_122 : decode cX9_room 122 = .ok (.iload_n 1, 1) := by decide +kernel
theorem dX9_room_123 : decode cX9_room 123 = .ok (.invokestatic 85, 3) := by decide +kernel
theorem dX9_room_126 : decode cX9_room 126 = .ok (.ifCond .eq 7, 3) := by decide +kernel
theorem dX9_room_129 : decode cX9_room 129 = .ok (.iconst 1, 1) := by decide +kernel
theorem dX9_room_130 : decode cX9_room 130 = .ok (.goto 4, 3) := by decide +kernel
theorem dX9_room_133 : decode cX9_room 133 = .ok (.iconst 0, 1) := by decide +kernel
theorem dX9_room_134 : decode cX9_room 134 = .ok (.ireturn, 1) := by decide +kernel
theorem dX9_room_135 : decode cX9_room 135 = .ok (.ldc 142, 2) := by decide +kernel
theorem dX9_room_137 : decode cX9_room 137 = .ok (.ireturn, 1) := by decide +kernel
theorem dX9_petition_0 : decode cX9_petition 0 = .ok (.aload_n 0, 1) := by decide +kernel
theorem dX9_petition_1 : decode cX9_petition 1 = .ok (.iload_n 1, 1) := by decide +kernel
theorem dX9_petition_2 : decode cX9_petition 2 = .ok (.invokevirtual 209, 3) := by decide +kernel
theorem dX9_petition_5 : decode cX9_petition 5 = .ok (.ifCond .ne 6, 3) := by decide +kernel
theorem dX9_petition_8 : decode cX9_petition 8 = .ok (.ldc 205, 2) := by decide +kernel
theorem dX9_petition_10 : decode cX9_petition 10 = .ok (.ireturn, 1) := by decide +kernel
theorem dX9_petition_11 : decode cX9_petition 11 = .ok (.iload_n 2, 1) := by decide +kernel
theorem dX9_petition_12 : decode cX9_petition 12 = .ok (.ifCond .ne 14, 3) := by decide +kernel
theorem dX9_petition_15 : decode cX9_petition 15 = .ok (.aload_n 0, 1) := by decide +kernel
theorem dX9_petition_16 : decode cX9_petition 16 = .ok (.bipush 26, 2) := by decide +kernel
theorem dX9_petition_18 : decode cX9_petition 18 = .ok (.iload_n 1, 1) := by decide +kernel
theorem dX9_petition_19 : decode cX9_petition 19 = .ok (.iadd, 1) := by decide +kernel
theorem dX9_petition_20 : decode cX9_petition 20 = .ok (.invokevirtual 97, 3) := by decide +kernel
theorem dX9_petition_23 : decode cX9_petition 23 = .ok (.goto 46, 3) := by decide +kernel
theorem dX9_petition_26 : decode cX9_petition 26 = .ok (.iload_n 2, 1) := by decide +kernel
theorem dX9_petition_27 : decode cX9_petition 27 = .ok (.iconst 1, 1) := by decide +kernel
theorem dX9_petition_28 : decode cX9_petition 28 = .ok (.if_icmp .ne 12, 3) := by decide +kernel
theorem dX9_petition_31 : decode cX9_petition 31 = .ok (.aload_n 0, 1) := by decide +kernel
theorem dX9_petition_32 : decode cX9_petition 32 = .ok (.getfield 16, 3) := by decide +kernel
theorem dX9_petition_35 : decode cX9_petition 35 = .ok (.iload_n 1, 1) := by decide +kernel
theorem dX9_petition_36 : decode cX9_petition 36 = .ok (.iaload, 1) := by decide +kernel
theorem dX9_petition_37 : decode cX9_petition 37 = .ok (.goto 32, 3) := by decide +kernel
theorem dX9_petition_40 : decode cX9_petition 40 = .ok (.iload_n 2, 1) := by decide +kernel
theorem dX9_petition_41 : decode cX9_petition 41 = .ok (.iconst 2, 1) := by decide +kernel
theorem dX9_petition_42 : decode cX9_petition 42 = .ok (.if_icmp .ne 25, 3) := by decide +kernel
theorem dX9_petition_45 : decode cX9_petition 45 = .ok (.aload_n 0, 1) := by decide +kernel
theorem dX9_petition_46 : decode cX9_petition 46 = .ok (.getfield 19, 3) := by decide +kernel
theorem dX9_petition_49 : decode cX9_petition 49 = .ok (.bipush 7, 2) := by decide +kernel
theorem dX9_petition_51 : decode cX9_petition 51 = .ok (.laload, 1) := by decide +kernel
theorem dX9_petition_52 : decode cX9_petition 52 = .ok (.iload_n 1, 1) := by decide +kernel
theorem dX9_petition_53 : decode cX9_petition 53 = .ok (.invokestatic 85, 3) := by decide +kernel
theorem dX9_petition_56 : decode cX9_petition 56 = .ok (.ifCond .eq 7, 3) := by decide +kernel
theorem dX9_petition_59 : decode cX9_petition 59 = .ok (.iconst 1, 1) := by decide +kernel
theorem dX9_petition_60 : decode cX9_petition 60 = .ok (.goto 9, 3) := by decide +kernel
theorem dX9_petition_63 : decode cX9_petition 63 = .ok (.iconst 0, 1) := by decide +kernel
theorem dX9_petition_64 : decode cX9_petition 64 = .ok (.goto 5, 3) := by decide +kernel
theorem dX9_petition_67 : decode cX9_petition 67 = .ok (.ldc 142, 2) := by decide +kernel
theorem dX9_petition_69 : decode cX9_petition 69 = .ok (.ireturn, 1) := by decide +kernel
theorem dX9_went_0 : decode cX9_went 0 = .ok (.iload_n 1, 1) := by decide +kernel
theorem dX9_went_1 : decode cX9_went 1 = .ok (.i2l, 1) := by decide +kernel
theorem dX9_went_2 : decode cX9_went 2 = .ok (.lconst 0, 1) := by decide +kernel
theorem dX9_went_3 : decode cX9_went 3 = .ok (.aload_n 0, 1) := by decide +kernel
theorem dX9_went_4 : decode cX9_went 4 = .ok (.getfield 19, 3) := by decide +kernel
theorem dX9_went_7 : decode cX9_went 7 = .ok (.bipush 9, 2) := by decide +kernel
theorem dX9_went_9 : decode cX9_went 9 = .ok (.laload, 1) := by decide +kernel
theorem dX9_went_10 : decode cX9_went 10 = .ok (.lconst 1, 1) := by decide +kernel
theorem dX9_went_11 : decode cX9_went 11 = .ok (.lsub, 1) := by decide +kernel
theorem dX9_went_12 : decode cX9_went 12 = .ok (.invokestatic 67, 3) := by decide +kernel
theorem dX9_went_15 : decode cX9_went 15 = .ok (.ifCond .ne 5, 3) := by decide +kernel
theorem dX9_went_18 : decode cX9_went 18 = .ok (.iconst (-1), 1) := by decide +kernel
theorem dX9_went_19 : decode cX9_went 19 = .ok (.ireturn, 1) := by decide +kernel
theorem dX9_went_20 : decode cX9_went 20 = .ok (.aload_n 0, 1) := by decide +kernel
theorem dX9_went_21 : decode cX9_went 21 = .ok (.bipush 9, 2) := by decide +kernel
theorem dX9_went_23 : decode cX9_went 23 = .ok (.invokevirtual 97, 3) := by decide +kernel
theorem dX9_went_26 : decode cX9_went 26 = .ok (.iconst 1, 1) := by decide +kernel
theorem dX9_went_27 : decode cX9_went 27 = .ok (.isub, 1) := by decide +kernel
theorem dX9_went_28 : decode cX9_went 28 = .ok (.iload_n 1, 1) := by decide +kernel
theorem dX9_went_29 : decode cX9_went 29 = .ok (.isub, 1) := by decide +kernel
theorem dX9_went_30 : decode cX9_went 30 = .ok (.istore_n 2, 1) := by decide +kernel
theorem dX9_went_31 : decode cX9_went 31 = .ok (.bipush 10, 2) := by decide +kernel
theorem dX9_went_33 : decode cX9_went 33 = .ok (.aload_n 0, 1) := by decide +kernel
theorem dX9_went_34 : decode cX9_went 34 = .ok (.iload_n 2, 1) := by decide +kernel
theorem dX9_went_35 : decode cX9_went 35 = .ok (.invokevirtual 212, 3) := by decide +kernel
theorem dX9_went_38 : decode cX9_went 38 = .ok (.imul, 1) := by decide +kernel
theorem dX9_went_39 : decode cX9_went 39 = .ok (.aload_n 0, 1) := by decide +kernel
theorem dX9_went_40 : decode cX9_went 40 = .ok (.iload_n 2, 1) := by decide +kernel
theorem dX9_went_41 : decode cX9_went 41 = .ok (.invokevirtual 215, 3) := by decide +kernel
theorem dX9_went_44 : decode cX9_went 44 = .ok (.iadd, 1) := by decide +kernel
theorem dX9_went_45 : decode cX9_went 45 = .ok (.ireturn, 1) := by decide +kernel
theorem dX9_notes_0 : decode cX9_notes 0 = .ok (.aload_n 0, 1) := by decide +kernel
theorem dX9_notes_1 : decode cX9_notes 1 = .ok (.getfield 193, 3) := by decide +kernel
theorem dX9_notes_4 : decode cX9_notes 4 = .ok (.bipush 16, 2) := by decide +kernel
theorem dX9_notes_6 : decode cX9_notes 6 = .ok (.if_icmp .ne 40, 3) := by decide +kernel
theorem dX9_notes_9 : decode cX9_notes 9 = .ok (.bipush 80, 2) := by decide +kernel
theorem dX9_notes_11 : decode cX9_notes 11 = .ok (.istore_n 1, 1) := by decide +kernel
theorem dX9_notes_12 : decode cX9_notes 12 = .ok (.iload_n 1, 1) := by decide +kernel
theorem dX9_notes_13 : decode cX9_notes 13 = .ok (.sipush 1280, 3) := by decide +kernel
theorem dX9_notes_16 : decode cX9_notes 16 = .ok (.if_icmp .ge 24, 3) := by decide +kernel
theorem dX9_notes_19 : decode cX9_notes 19 = .ok (.aload_n 0, 1) := by decide +kernel
theorem dX9_notes_20 : decode cX9_notes 20 = .ok (.getfield 29, 3) := by decide +kernel
theorem dX9_notes_23 : decode cX9_notes 23 = .ok (.iload_n 1, 1) := by decide +kernel
theorem dX9_notes_24 : decode cX9_notes 24 = .ok (.bipush 80, 2) := by decide +kernel
theorem dX9_notes_26 : decode cX9_notes 26 = .ok (.isub, 1) := by decide +kernel
theorem dX9_notes_27 : decode cX9_notes 27 = .ok (.aload_n 0, 1) := by decide +kernel
theorem dX9_notes_28 : decode cX9_notes 28 = .ok (.getfield 29, 3) := by decide +kernel
theorem dX9_notes_31 : decode cX9_notes 31 = .ok (.iload_n 1, 1) := by decide +kernel
theorem dX9_notes_32 : decode cX9_notes 32 = .ok (.laload, 1) := by decide +kernel
theorem dX9_notes_33 : decode cX9_notes 33 = .ok (.lastore, 1) := by decide +kernel
theorem dX9_notes_34 : decode cX9_notes 34 = .ok (.iinc 1 1, 3) := by decide +kernel
theorem dX9_notes_37 : decode cX9_notes 37 = .ok (.goto (-25), 3) := by decide +kernel
theorem dX9_notes_40 : decode cX9_notes 40 = .ok (.aload_n 0, 1) := by decide +kernel
theorem dX9_notes_41 : decode cX9_notes 41 = .ok (.bipush 15, 2) := by decide +kernel
theorem dX9_notes_43 : decode cX9_notes 43 = .ok (.putfield 193, 3) := by decide +kernel
theorem dX9_notes_46 : decode cX9_notes 46 = .ok (.iconst 0, 1) := by decide +kernel
theorem dX9_notes_47 : decode cX9_notes 47 = .ok (.istore_n 1, 1) := by decide +kernel
theorem dX9_notes_48 : decode cX9_notes 48 = .ok (.iload_n 1, 1) := by decide +kernel
theorem dX9_notes_49 : decode cX9_notes 49 = .ok (.bipush 80, 2) := by decide +kernel
theorem dX9_notes_51 : decode cX9_notes 51 = .ok (.if_icmp .ge 29, 3) := by decide +kernel
theorem dX9_notes_54 : decode cX9_notes 54 = .ok (.aload_n 0, 1) := by decide +kernel
theorem dX9_notes_55 : decode cX9_notes 55 = .ok (.getfield 29, 3) := by decide +kernel
theorem dX9_notes_58 : decode cX9_notes 58 = .ok (.bipush 80, 2) := by decide +kernel
theorem dX9_notes_60 : decode cX9_notes 60 = .ok (.aload_n 0, 1) := by decide +kernel
theorem dX9_notes_61 : decode cX9_notes 61 = .ok (.getfield 193, 3) := by decide +kernel
theorem dX9_notes_64 : decode cX9_notes 64 = .ok (.imul, 1) := by decide +kernel
theorem dX9_notes_65 : decode cX9_notes 65 = .ok (.iload_n 1, 1) := by decide +kernel
theorem dX9_notes_66 : decode cX9_notes 66 = .ok (.iadd, 1) := by decide +kernel
theorem dX9_notes_67 : decode cX9_notes 67 = .ok (.aload_n 0, 1) := by decide +kernel
theorem dX9_notes_68 : decode cX9_notes 68 = .ok (.getfield 19, 3) := by decide +kernel
theorem dX9_notes_71 : decode cX9_notes 71 = .ok (.iload_n 1, 1) := by decide +kernel
theorem dX9_notes_72 : decode cX9_notes 72 = .ok (.laload, 1) := by decide +kernel
theorem dX9_notes_73 : decode cX9_notes 73 = .ok (.lastore, 1) := by decide +kernel
theorem dX9_notes_74 : decode cX9_notes 74 = .ok (.iinc 1 1, 3) := by decide +kernel
theorem dX9_notes_77 : decode cX9_notes 77 = .ok (.goto (-29), 3) := by decide +kernel
theorem dX9_notes_80 : decode cX9_notes 80 = .ok (.aload_n 0, 1) := by decide +kernel
theorem dX9_notes_81 : decode cX9_notes 81 = .ok (.dup, 1) := by decide +kernel
theorem dX9_notes_82 : decode cX9_notes 82 = .ok (.getfield 193, 3) := by decide +kernel
theorem dX9_notes_85 : decode cX9_notes 85 = .ok (.iconst 1, 1) := by decide +kernel
theorem dX9_notes_86 : decode cX9_notes 86 = .ok (.iadd, 1) := by decide +kernel
theorem dX9_notes_87 : decode cX9_notes 87 = .ok (.putfield 193, 3) := by decide +kernel
theorem dX9_notes_90 : decode cX9_notes 90 = .ok (.return_, 1) := by decide +kernel
theorem dX9_hour_0 : decode cX9_hour 0 = .ok (.iload_n 1, 1) := by decide +kernel
theorem dX9_hour_1 : decode cX9_hour 1 = .ok (.i2l, 1) := by decide +kernel
theorem dX9_hour_2 : decode cX9_hour 2 = .ok (.lconst 1, 1) := by decide +kernel
theorem dX9_hour_3 : decode cX9_hour 3 = .ok (.ldc2_w 218, 3) := by decide +kernel
theorem dX9_hour_6 : decode cX9_hour 6 = .ok (.invokestatic 67, 3) := by decide +kernel
theorem dX9_hour_9 : decode cX9_hour 9 = .ok (.ifCond .ne 6, 3) := by decide +kernel
theorem dX9_hour_12 : decode cX9_hour 12 = .ok (.ldc 142, 2) := by decide +kernel
theorem dX9_hour_14 : decode cX9_hour 14 = .ok (.ireturn, 1) := by decide +kernel
theorem dX9_hour_15 : decode cX9_hour 15 = .ok (.aload_n 0, 1) := by decide +kernel
theorem dX9_hour_16 : decode cX9_hour 16 = .ok (.getfield 64, 3) := by decide +kernel
theorem dX9_hour_19 : decode cX9_hour 19 = .ok (.ifCond .ne 6, 3) := by decide +kernel
theorem dX9_hour_22 : decode cX9_hour 22 = .ok (.ldc 220, 2) := by decide +kernel
theorem dX9_hour_24 : decode cX9_hour 24 = .ok (.ireturn, 1) := by decide +kernel
theorem dX9_hour_25 : decode cX9_hour 25 = .ok (.aload_n 0, 1) := by decide +kernel
theorem dX9_hour_26 : decode cX9_hour 26 = .ok (.getfield 19, 3) := by decide +kernel
theorem dX9_hour_29 : decode cX9_hour 29 = .ok (.iconst 1, 1) := by decide +kernel
theorem dX9_hour_30 : decode cX9_hour 30 = .ok (.laload, 1) := by decide +kernel
theorem dX9_hour_31 : decode cX9_hour 31 = .ok (.ldc2_w 221, 3) := by decide +kernel
theorem dX9_hour_34 : decode cX9_hour 34 = .ok (.lcmp, 1) := by decide +kernel
theorem dX9_hour_35 : decode cX9_hour 35 = .ok (.ifCond .le 6, 3) := by decide +kernel
theorem dX9_hour_38 : decode cX9_hour 38 = .ok (.ldc 146, 2) := by decide +kernel
theorem dX9_hour_40 : decode cX9_hour 40 = .ok (.ireturn, 1) := by decide +kernel
theorem dX9_hour_41 : decode cX9_hour 41 = .ok (.aload_n 0, 1) := by decide +kernel
theorem dX9_hour_42 : decode cX9_hour 42 = .ok (.invokevirtual 223, 3) := by decide +kernel
theorem dX9_hour_45 : decode cX9_hour 45 = .ok (.aload_n 0, 1) := by decide +kernel
theorem dX9_hour_46 : decode cX9_hour 46 = .ok (.iload_n 1, 1) := by decide +kernel
theorem dX9_hour_47 : decode cX9_hour 47 = .ok (.invokevirtual 226, 3) := by decide +kernel
theorem dX9_hour_50 : decode cX9_hour 50 = .ok (.aload_n 0, 1) := by decide +kernel
theorem dX9_hour_51 : decode cX9_hour 51 = .ok (.iconst 2, 1) := by decide +kernel
theorem dX9_hour_52 : decode cX9_hour 52 = .ok (.invokevirtual 97, 3) := by decide +kernel
theorem dX9_hour_55 : decode cX9_hour 55 = .ok (.ireturn, 1) := by decide +kernel
theorem dX9_turns_0 : decode cX9_turns 0 = .ok (.aload_n 0, 1) := by decide +kernel
theorem dX9_turns_1 : decode cX9_turns 1 = .ok (.invokevirtual 223, 3) := by decide +kernel
theorem dX9_turns_4 : decode cX9_turns 4 = .ok (.aload_n 0, 1) := by decide +kernel
theorem dX9_turns_5 : decode cX9_turns 5 = .ok (.getfield 19, 3) := by decide +kernel
theorem dX9_turns_8 : decode cX9_turns 8 = .ok (.iload_n 1, 1) := by decide +kernel
theorem dX9_turns_9 : decode cX9_turns 9 = .ok (.laload, 1) := by decide +kernel
theorem dX9_turns_10 : decode cX9_turns 10 = .ok (.iload_n 2, 1) := by decide +kernel
theorem dX9_turns_11 : decode cX9_turns 11 = .ok (.invokestatic 85, 3) := by decide +kernel
theorem dX9_turns_14 : decode cX9_turns 14 = .ok (.ifCond .eq 7, 3) := by decide +kernel
theorem dX9_turns_17 : decode cX9_turns 17 = .ok (.iconst 1, 1) := by decide +kernel
theorem dX9_turns_18 : decode cX9_turns 18 = .ok (.goto 4, 3) := by decide +kernel
theorem dX9_turns_21 : decode cX9_turns 21 = .ok (.iconst 0, 1) := by decide +kernel
theorem dX9_turns_22 : decode cX9_turns 22 = .ok (.istore 4, 2) := by decide +kernel
theorem dX9_turns_24 : decode cX9_turns 24 = .ok (.aload_n 0, 1) := by decide +kernel
theorem dX9_turns_25 : decode cX9_turns 25 = .ok (.getfield 19, 3) := by decide +kernel
theorem dX9_turns_28 : decode cX9_turns 28 = .ok (.iload_n 1, 1) := by decide +kernel
theorem dX9_turns_29 : decode cX9_turns 29 = .ok (.iload_n 3, 1) := by decide +kernel
theorem dX9_turns_30 : decode cX9_turns 30 = .ok (.ifCond .eq 16, 3) := by decide +kernel
theorem dX9_turns_33 : decode cX9_turns 33 = .ok (.aload_n 0, 1) := by decide +kernel
theorem dX9_turns_34 : decode cX9_turns 34 = .ok (.getfield 19, 3) := by decide +kernel
theorem dX9_turns_37 : decode cX9_turns 37 = .ok (.iload_n 1, 1) := by decide +kernel
theorem dX9_turns_38 : decode cX9_turns 38 = .ok (.laload, 1) := by decide +kernel
theorem dX9_turns_39 : decode cX9_turns 39 = .ok (.lconst 1, 1) := by decide +kernel
theorem dX9_turns_40 : decode cX9_turns 40 = .ok (.iload_n 2, 1) := by decide +kernel
theorem dX9_turns_41 : decode cX9_turns 41 = .ok (.lshl, 1) := by decide +kernel
theorem dX9_turns_42 : decode cX9_turns 42 = .ok (.lor, 1) := by decide +kernel
theorem dX9_turns_43 : decode cX9_turns 43 = .ok (.goto 17, 3) := by decide +kernel
theorem dX9_turns_46 : decode cX9_turns 46 = .ok (.aload_n 0, 1) := by decide +kernel
theorem dX9_turns_47 : decode cX9_turns 47 = .ok (.getfield 19, 3) := by decide +kernel
theorem dX9_turns_50 : decode cX9_turns 50 = .ok (.iload_n 1, 1) := by decide +kernel
theorem dX9_turns_51 : decode cX9_turns 51 = .ok (.laload, 1) := by decide +kernel
theorem dX9_turns_52 : decode cX9_turns 52 = .ok (.lconst 1, 1) := by decide +kernel
theorem dX9_turns_53 : decode cX9_turns 53 = .ok (.iload_n 2, 1) := by decide +kernel
theorem dX9_turns_54 : decode cX9_turns 54 = .ok (.lshl, 1) := by decide +kernel
theorem dX9_turns_55 : decode cX9_turns 55 = .ok (.ldc2_w 229, 3) := by decide +kernel
theorem dX9_turns_58 : decode cX9_turns 58 = .ok (.lxor, 1) := by decide +kernel
theorem dX9_turns_59 : decode cX9_turns 59 = .ok (.land, 1) := by decide +kernel
theorem dX9_turns_60 : decode cX9_turns 60 = .ok (.lastore, 1) := by decide +kernel
theorem dX9_turns_61 : decode cX9_turns 61 = .ok (.iload 4, 2) := by decide +kernel
theorem dX9_turns_63 : decode cX9_turns 63 = .ok (.ireturn, 1) := by decide +kernel
theorem dX9_carpet_0 : decode cX9_carpet 0 = .ok (.aload_n 0, 1) := by decide +kernel
theorem dX9_carpet_1 : decode cX9_carpet 1 = .ok (.iload_n 1, 1) := by decide +kernel
theorem dX9_carpet_2 : decode cX9_carpet 2 = .ok (.invokevirtual 202, 3) := by decide +kernel
theorem dX9_carpet_5 : decode cX9_carpet 5 = .ok (.ifCond .eq 13, 3) := by decide +kernel
theorem dX9_carpet_8 : decode cX9_carpet 8 = .ok (.aload_n 0, 1) := by decide +kernel
theorem dX9_carpet_9 : decode cX9_carpet 9 = .ok (.iconst 4, 1) := by decide +kernel
theorem dX9_carpet_10 : decode cX9_carpet 10 = .ok (.iload_n 1, 1) := by decide +kernel
theorem dX9_carpet_11 : decode cX9_carpet 11 = .ok (.iload_n 2, 1) := by decide +kernel
theorem dX9_carpet_12 : decode cX9_carpet 12 = .ok (.invokevirtual 231, 3) := by decide +kernel
theorem dX9_carpet_15 : decode cX9_carpet 15 = .ok (.goto 5, 3) := by decide +kernel
theorem dX9_carpet_18 : decode cX9_carpet 18 = .ok (.ldc 205, 2) := by decide +kernel
theorem dX9_carpet_20 : decode cX9_carpet 20 = .ok (.ireturn, 1) := by decide +kernel
theorem dX9_noise_0 : decode cX9_noise 0 = .ok (.aload_n 0, 1) := by decide +kernel
theorem dX9_noise_1 : decode cX9_noise 1 = .ok (.iload_n 1, 1) := by decide +kernel
theorem dX9_noise_2 : decode cX9_noise 2 = .ok (.invokevirtual 202, 3) := by decide +kernel
theorem dX9_noise_5 : decode cX9_noise 5 = .ok (.ifCond .ne 6, 3) := by decide +kernel
theorem dX9_noise_8 : decode cX9_noise 8 = .ok (.ldc 205, 2) := by decide +kernel
theorem dX9_noise_10 : decode cX9_noise 10 = .ok (.ireturn, 1) := by decide +kernel
theorem dX9_noise_11 : decode cX9_noise 11 = .ok (.iload_n 2, 1) := by decide +kernel
theorem dX9_noise_12 : decode cX9_noise 12 = .ok (.i2l, 1) := by decide +kernel
theorem dX9_noise_13 : decode cX9_noise 13 = .ok (.lconst 0, 1) := by decide +kernel
theorem dX9_noise_14 : decode cX9_noise 14 = .ok (.ldc2_w 79, 3) := by decide +kernel
theorem dX9_noise_17 : decode cX9_noise 17 = .ok (.invokestatic 67, 3) := by decide +kernel
theorem dX9_noise_20 : decode cX9_noise 20 = .ok (.ifCond .ne 6, 3) := by decide +kernel
theorem dX9_noise_23 : decode cX9_noise 23 = .ok (.ldc 142, 2) := by decide +kernel
theorem dX9_noise_25 : decode cX9_noise 25 = .ok (.ireturn, 1) := by decide +kernel
theorem dX9_noise_26 : decode cX9_noise 26 = .ok (.aload_n 0, 1) := by decide +kernel
theorem dX9_noise_27 : decode cX9_noise 27 = .ok (.invokevirtual 223, 3) := by decide +kernel
theorem dX9_noise_30 : decode cX9_noise 30 = .ok (.aload_n 0, 1) := by decide +kernel
theorem dX9_noise_31 : decode cX9_noise 31 = .ok (.bipush 10, 2) := by decide +kernel
theorem dX9_noise_33 : decode cX9_noise 33 = .ok (.iload_n 1, 1) := by decide +kernel
theorem dX9_noise_34 : decode cX9_noise 34 = .ok (.iadd, 1) := by decide +kernel
theorem dX9_noise_35 : decode cX9_noise 35 = .ok (.invokevirtual 97, 3) := by decide +kernel
theorem dX9_noise_38 : decode cX9_noise 38 = .ok (.istore_n 3, 1) := by decide +kernel
theorem dX9_noise_39 : decode cX9_noise 39 = .ok (.aload_n 0, 1) := by decide +kernel
theorem dX9_noise_40 : decode cX9_noise 40 = .ok (.getfield 19, 3) := by decide +kernel
theorem dX9_noise_43 : decode cX9_noise 43 = .ok (.bipush 10, 2) := by decide +kernel
theorem dX9_noise_45 : decode cX9_noise 45 = .ok (.iload_n 1, 1) := by decide +kernel
theorem dX9_noise_46 : decode cX9_noise 46 = .ok (.iadd, 1) := by decide +kernel
theorem dX9_noise_47 : decode cX9_noise 47 = .ok (.iload_n 2, 1) := by decide +kernel
theorem dX9_noise_48 : decode cX9_noise 48 = .ok (.i2l, 1) := by decide +kernel
theorem dX9_noise_49 : decode cX9_noise 49 = .ok (.lastore, 1) := by decide +kernel
theorem dX9_noise_50 : decode cX9_noise 50 = .ok (.iload_n 3, 1) := by decide +kernel
theorem dX9_noise_51 : decode cX9_noise 51 = .ok (.ireturn, 1) := by decide +kernel
theorem dX9_nail_0 : decode cX9_nail 0 = .ok (.aload_n 0, 1) := by decide +kernel
theorem dX9_nail_1 : decode cX9_nail 1 = .ok (.iload_n 1, 1) := by decide +kernel
theorem dX9_nail_2 : decode cX9_nail 2 = .ok (.invokevirtual 202, 3) := by decide +kernel
theorem dX9_nail_5 : decode cX9_nail 5 = .ok (.ifCond .eq 13, 3) := by decide +kernel
theorem dX9_nail_8 : decode cX9_nail 8 = .ok (.aload_n 0, 1) := by decide +kernel
theorem dX9_nail_9 : decode cX9_nail 9 = .ok (.iconst 5, 1) := by decide +kernel
theorem dX9_nail_10 : decode cX9_nail 10 = .ok (.iload_n 1, 1) := by decide +kernel
theorem dX9_nail_11 : decode cX9_nail 11 = .ok (.iload_n 2, 1) := by decide +kernel
theorem dX9_nail_12 : decode cX9_nail 12 = .ok (.invokevirtual 231, 3) := by decide +kernel
theorem dX9_nail_15 : decode cX9_nail 15 = .ok (.goto 5, 3) := by decide +kernel
theorem dX9_nail_18 : decode cX9_nail 18 = .ok (.ldc 205, 2) := by decide +kernel
theorem dX9_nail_20 : decode cX9_nail 20 = .ok (.ireturn, 1) := by decide +kernel
theorem dX9_brick_0 : decode cX9_brick 0 = .ok (.aload_n 0, 1) := by decide +kernel
theorem dX9_brick_1 : decode cX9_brick 1 = .ok (.iload_n 1, 1) := by decide +kernel
theorem dX9_brick_2 : decode cX9_brick 2 = .ok (.invokevirtual 235, 3) := by decide +kernel
theorem dX9_brick_5 : decode cX9_brick 5 = .ok (.ifCond .eq 14, 3) := by decide +kernel
theorem dX9_brick_8 : decode cX9_brick 8 = .ok (.aload_n 0, 1) := by decide +kernel
theorem dX9_brick_9 : decode cX9_brick 9 = .ok (.bipush 6, 2) := by decide +kernel
theorem dX9_brick_11 : decode cX9_brick 11 = .ok (.iload_n 1, 1) := by decide +kernel
theorem dX9_brick_12 : decode cX9_brick 12 = .ok (.iload_n 2, 1) := by decide +kernel
theorem dX9_brick_13 : decode cX9_brick 13 = .ok (.invokevirtual 231, 3) := by decide +kernel
theorem dX9_brick_16 : decode cX9_brick 16 = .ok (.goto 5, 3) := by decide +kernel
theorem dX9_brick_19 : decode cX9_brick 19 = .ok (.ldc 205, 2) := by decide +kernel
theorem dX9_brick_21 : decode cX9_brick 21 = .ok (.ireturn, 1) := by decide +kernel
theorem dX9_chalk_0 : decode cX9_chalk 0 = .ok (.aload_n 0, 1) := by decide +kernel
theorem dX9_chalk_1 : decode cX9_chalk 1 = .ok (.iload_n 1, 1) := by decide +kernel
theorem dX9_chalk_2 : decode cX9_chalk 2 = .ok (.invokevirtual 209, 3) := by decide +kernel
theorem dX9_chalk_5 : decode cX9_chalk 5 = .ok (.ifCond .eq 11, 3) := by decide +kernel
theorem dX9_chalk_8 : decode cX9_chalk 8 = .ok (.aload_n 0, 1) := by decide +kernel
theorem dX9_chalk_9 : decode cX9_chalk 9 = .ok (.iload_n 2, 1) := by decide +kernel
theorem dX9_chalk_10 : decode cX9_chalk 10 = .ok (.invokevirtual 202, 3) := by decide +kernel
theorem dX9_chalk_13 : decode cX9_chalk 13 = .ok (.ifCond .ne 6, 3) := by decide +kernel
theorem dX9_chalk_16 : decode cX9_chalk 16 = .ok (.ldc 205, 2) := by decide +kernel
theorem dX9_chalk_18 : decode cX9_chalk 18 = .ok (.ireturn, 1) := by decide +kernel
theorem dX9_chalk_19 : decode cX9_chalk 19 = .ok (.aload_n 0, 1) := by decide +kernel
theorem dX9_chalk_20 : decode cX9_chalk 20 = .ok (.invokevirtual 223, 3) := by decide +kernel
theorem dX9_chalk_23 : decode cX9_chalk 23 = .ok (.aload_n 0, 1) := by decide +kernel
theorem dX9_chalk_24 : decode cX9_chalk 24 = .ok (.bipush 26, 2) := by decide +kernel
theorem dX9_chalk_26 : decode cX9_chalk 26 = .ok (.iload_n 1, 1) := by decide +kernel
theorem dX9_chalk_27 : decode cX9_chalk 27 = .ok (.iadd, 1) := by decide +kernel
theorem dX9_chalk_28 : decode cX9_chalk 28 = .ok (.invokevirtual 97, 3) := by decide +kernel
theorem dX9_chalk_31 : decode cX9_chalk 31 = .ok (.istore_n 3, 1) := by decide +kernel
theorem dX9_chalk_32 : decode cX9_chalk 32 = .ok (.aload_n 0, 1) := by decide +kernel
theorem dX9_chalk_33 : decode cX9_chalk 33 = .ok (.getfield 19, 3) := by decide +kernel
theorem dX9_chalk_36 : decode cX9_chalk 36 = .ok (.bipush 26, 2) := by decide +kernel
theorem dX9_chalk_38 : decode cX9_chalk 38 = .ok (.iload_n 1, 1) := by decide +kernel
theorem dX9_chalk_39 : decode cX9_chalk 39 = .ok (.iadd, 1) := by decide +kernel
theorem dX9_chalk_40 : decode cX9_chalk 40 = .ok (.iload_n 2, 1) := by decide +kernel
theorem dX9_chalk_41 : decode cX9_chalk 41 = .ok (.i2l, 1) := by decide +kernel
theorem dX9_chalk_42 : decode cX9_chalk 42 = .ok (.lastore, 1) := by decide +kernel
theorem dX9_chalk_43 : decode cX9_chalk 43 = .ok (.aload_n 0, 1) := by decide +kernel
theorem dX9_chalk_44 : decode cX9_chalk 44 = .ok (.getfield 19, 3) := by decide +kernel
theorem dX9_chalk_47 : decode cX9_chalk 47 = .ok (.bipush 7, 2) := by decide +kernel
theorem dX9_chalk_49 : decode cX9_chalk 49 = .ok (.dup2, 1) := by decide +kernel
theorem dX9_chalk_50 : decode cX9_chalk 50 = .ok (.laload, 1) := by decide +kernel
theorem dX9_chalk_51 : decode cX9_chalk 51 = .ok (.lconst 1, 1) := by decide +kernel
theorem dX9_chalk_52 : decode cX9_chalk 52 = .ok (.iload_n 1, 1) := by decide +kernel
theorem dX9_chalk_53 : decode cX9_chalk 53 = .ok (.lshl, 1) := by decide +kernel
theorem dX9_chalk_54 : decode cX9_chalk 54 = .ok (.ldc2_w 229, 3) := by decide +kernel
theorem dX9_chalk_57 : decode cX9_chalk 57 = .ok (.lxor, 1) := by decide +kernel
theorem dX9_chalk_58 : decode cX9_chalk 58 = .ok (.land, 1) := by decide +kernel
theorem dX9_chalk_59 : decode cX9_chalk 59 = .ok (.lastore, 1) := by decide +kernel
theorem dX9_chalk_60 : decode cX9_chalk 60 = .ok (.iload_n 3, 1) := by decide +kernel
theorem dX9_chalk_61 : decode cX9_chalk 61 = .ok (.ireturn, 1) := by decide +kernel
theorem dX9_sole_0 : decode cX9_sole 0 = .ok (.aload_n 0, 1) := by decide +kernel
theorem dX9_sole_1 : decode cX9_sole 1 = .ok (.getfield 186, 3) := by decide +kernel
theorem dX9_sole_4 : decode cX9_sole 4 = .ok (.ifCond .ne 6, 3) := by decide +kernel
theorem dX9_sole_7 : decode cX9_sole 7 = .ok (.ldc 220, 2) := by decide +kernel
theorem dX9_sole_9 : decode cX9_sole 9 = .ok (.ireturn, 1) := by decide +kernel
theorem dX9_sole_10 : decode cX9_sole 10 = .ok (.aload_n 0, 1) := by decide +kernel
theorem dX9_sole_11 : decode cX9_sole 11 = .ok (.invokevirtual 223, 3) := by decide +kernel
theorem dX9_sole_14 : decode cX9_sole 14 = .ok (.aload_n 0, 1) := by decide +kernel
theorem dX9_sole_15 : decode cX9_sole 15 = .ok (.iconst 3, 1) := by decide +kernel
theorem dX9_sole_16 : decode cX9_sole 16 = .ok (.invokevirtual 97, 3) := by decide +kernel
theorem dX9_sole_19 : decode cX9_sole 19 = .ok (.istore_n 1, 1) := by decide +kernel
theorem dX9_sole_20 : decode cX9_sole 20 = .ok (.aload_n 0, 1) := by decide +kernel
theorem dX9_sole_21 : decode cX9_sole 21 = .ok (.getfield 19, 3) := by decide +kernel
theorem dX9_sole_24 : decode cX9_sole 24 = .ok (.iconst 3, 1) := by decide +kernel
theorem dX9_sole_25 : decode cX9_sole 25 = .ok (.lconst 0, 1) := by decide +kernel
theorem dX9_sole_26 : decode cX9_sole 26 = .ok (.lastore, 1) := by decide +kernel
theorem dX9_sole_27 : decode cX9_sole 27 = .ok (.iload_n 1, 1) := by decide +kernel
theorem dX9_sole_28 : decode cX9_sole 28 = .ok (.ireturn, 1) := by decide +kernel
theorem dX9_teach_0 : decode cX9_teach 0 = .ok (.iload_n 1, 1) := by decide +kernel
theorem dX9_teach_1 : decode cX9_teach 1 = .ok (.invokestatic 238, 3) := by decide +kernel
theorem dX9_teach_4 : decode cX9_teach 4 = .ok (.ifCond .ne 6, 3) := by decide +kernel
theorem dX9_teach_7 : decode cX9_teach 7 = .ok (.ldc 205, 2) := by decide +kernel
theorem dX9_teach_9 : decode cX9_teach 9 = .ok (.ireturn, 1) := by decide +kernel
theorem dX9_teach_10 : decode cX9_teach 10 = .ok (.aload_n 0, 1) := by decide +kernel
theorem dX9_teach_11 : decode cX9_teach 11 = .ok (.getfield 186, 3) := by decide +kernel
theorem dX9_teach_14 : decode cX9_teach 14 = .ok (.ifCond .ne 6, 3) := by decide +kernel
theorem dX9_teach_17 : decode cX9_teach 17 = .ok (.ldc 220, 2) := by decide +kernel
theorem dX9_teach_19 : decode cX9_teach 19 = .ok (.ireturn, 1) := by decide +kernel
theorem dX9_teach_20 : decode cX9_teach 20 = .ok (.aload_n 0, 1) := by decide +kernel
theorem dX9_teach_21 : decode cX9_teach 21 = .ok (.invokevirtual 223, 3) := by decide +kernel
theorem dX9_teach_24 : decode cX9_teach 24 = .ok (.aload_n 0, 1) := by decide +kernel
theorem dX9_teach_25 : decode cX9_teach 25 = .ok (.iconst 0, 1) := by decide +kernel
theorem dX9_teach_26 : decode cX9_teach 26 = .ok (.invokevirtual 97, 3) := by decide +kernel
theorem dX9_teach_29 : decode cX9_teach 29 = .ok (.istore_n 2, 1) := by decide +kernel
theorem dX9_teach_30 : decode cX9_teach 30 = .ok (.aload_n 0, 1) := by decide +kernel
theorem dX9_teach_31 : decode cX9_teach 31 = .ok (.getfield 19, 3) := by decide +kernel
theorem dX9_teach_34 : decode cX9_teach 34 = .ok (.iconst 0, 1) := by decide +kernel
theorem dX9_teach_35 : decode cX9_teach 35 = .ok (.iload_n 1, 1) := by decide +kernel
theorem dX9_teach_36 : decode cX9_teach 36 = .ok (.i2l, 1) := by decide +kernel
