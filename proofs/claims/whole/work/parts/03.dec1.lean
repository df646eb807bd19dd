theorem dX0_init_0 : decode cX0_init 0 = .ok (.aload_n 0, 1) := by decide +kernel
theorem dX0_init_1 : decode cX0_init 1 = .ok (.invokespecial 3, 3) := by decide +kernel
theorem dX0_init_4 : decode cX0_init 4 = .ok (.aload_n 0, 1) := by decide +kernel
theorem dX0_init_5 : decode cX0_init 5 = .ok (.bipush 15, 2) := by decide +kernel
theorem dX0_init_7 : decode cX0_init 7 = .ok (.newarray .int, 2) := by decide +kernel
theorem dX0_init_9 : decode cX0_init 9 = .ok (.putfield 9, 3) := by decide +kernel
theorem dX0_init_12 : decode cX0_init 12 = .ok (.aload_n 0, 1) := by decide +kernel
theorem dX0_init_13 : decode cX0_init 13 = .ok (.bipush 15, 2) := by decide +kernel
theorem dX0_init_15 : decode cX0_init 15 = .ok (.newarray .int, 2) := by decide +kernel
theorem dX0_init_17 : decode cX0_init 17 = .ok (.putfield 15, 3) := by decide +kernel
theorem dX0_init_20 : decode cX0_init 20 = .ok (.return_, 1) := by decide +kernel
theorem dX0_add_0 : decode cX0_add 0 = .ok (.aload_n 0, 1) := by decide +kernel
theorem dX0_add_1 : decode cX0_add 1 = .ok (.getfield 18, 3) := by decide +kernel
theorem dX0_add_4 : decode cX0_add 4 = .ok (.bipush 15, 2) := by decide +kernel
theorem dX0_add_6 : decode cX0_add 6 = .ok (.if_icmp .ge 33, 3) := by decide +kernel
theorem dX0_add_9 : decode cX0_add 9 = .ok (.aload_n 0, 1) := by decide +kernel
theorem dX0_add_10 : decode cX0_add 10 = .ok (.getfield 9, 3) := by decide +kernel
theorem dX0_add_13 : decode cX0_add 13 = .ok (.aload_n 0, 1) := by decide +kernel
theorem dX0_add_14 : decode cX0_add 14 = .ok (.getfield 18, 3) := by decide +kernel
theorem dX0_add_17 : decode cX0_add 17 = .ok (.iload_n 1, 1) := by decide +kernel
theorem dX0_add_18 : decode cX0_add 18 = .ok (.iastore, 1) := by decide +kernel
theorem dX0_add_19 : decode cX0_add 19 = .ok (.aload_n 0, 1) := by decide +kernel
theorem dX0_add_20 : decode cX0_add 20 = .ok (.getfield 15, 3) := by decide +kernel
theorem dX0_add_23 : decode cX0_add 23 = .ok (.aload_n 0, 1) := by decide +kernel
theorem dX0_add_24 : decode cX0_add 24 = .ok (.getfield 18, 3) := by decide +kernel
theorem dX0_add_27 : decode cX0_add 27 = .ok (.iload_n 2, 1) := by decide +kernel
theorem dX0_add_28 : decode cX0_add 28 = .ok (.iastore, 1) := by decide +kernel
theorem dX0_add_29 : decode cX0_add 29 = .ok (.aload_n 0, 1) := by decide +kernel
theorem dX0_add_30 : decode cX0_add 30 = .ok (.dup, 1) := by decide +kernel
theorem dX0_add_31 : decode cX0_add 31 = .ok (.getfield 18, 3) := by decide +kernel
theorem dX0_add_34 : decode cX0_add 34 = .ok (.iconst 1, 1) := by decide +kernel
theorem dX0_add_35 : decode cX0_add 35 = .ok (.iadd, 1) := by decide +kernel
theorem dX0_add_36 : decode cX0_add 36 = .ok (.putfield 18, 3) := by decide +kernel
theorem dX0_add_39 : decode cX0_add 39 = .ok (.return_, 1) := by decide +kernel
theorem dX0_firstWrong_0 : decode cX0_firstWrong 0 = .ok (.iconst 0, 1) := by decide +kernel
theorem dX0_firstWrong_1 : decode cX0_firstWrong 1 = .ok (.istore_n 2, 1) := by decide +kernel
theorem dX0_firstWrong_2 : decode cX0_firstWrong 2 = .ok (.iload_n 2, 1) := by decide +kernel
theorem dX0_firstWrong_3 : decode cX0_firstWrong 3 = .ok (.aload_n 0, 1) := by decide +kernel
theorem dX0_firstWrong_4 : decode cX0_firstWrong 4 = .ok (.getfield 18, 3) := by decide +kernel
theorem dX0_firstWrong_7 : decode cX0_firstWrong 7 = .ok (.if_icmp .ge 28, 3) := by decide +kernel
theorem dX0_firstWrong_10 : decode cX0_firstWrong 10 = .ok (.aload_n 1, 1) := by decide +kernel
theorem dX0_firstWrong_11 : decode cX0_firstWrong 11 = .ok (.aload_n 0, 1) := by decide +kernel
theorem dX0_firstWrong_12 : decode cX0_firstWrong 12 = .ok (.getfield 9, 3) := by decide +kernel
theorem dX0_firstWrong_15 : decode cX0_firstWrong 15 = .ok (.iload_n 2, 1) := by decide +kernel
theorem dX0_firstWrong_16 : decode cX0_firstWrong 16 = .ok (.iaload, 1) := by decide +kernel
theorem dX0_firstWrong_17 : decode cX0_firstWrong 17 = .ok (.iaload, 1) := by decide +kernel
theorem dX0_firstWrong_18 : decode cX0_firstWrong 18 = .ok (.aload_n 0, 1) := by decide +kernel
theorem dX0_firstWrong_19 : decode cX0_firstWrong 19 = .ok (.getfield 15, 3) := by decide +kernel
theorem dX0_firstWrong_22 : decode cX0_firstWrong 22 = .ok (.iload_n 2, 1) := by decide +kernel
theorem dX0_firstWrong_23 : decode cX0_firstWrong 23 = .ok (.iaload, 1) := by decide +kernel
theorem dX0_firstWrong_24 : decode cX0_firstWrong 24 = .ok (.if_icmp .eq 5, 3) := by decide +kernel
theorem dX0_firstWrong_27 : decode cX0_firstWrong 27 = .ok (.iload_n 2, 1) := by decide +kernel
theorem dX0_firstWrong_28 : decode cX0_firstWrong 28 = .ok (.ireturn, 1) := by decide +kernel
theorem dX0_firstWrong_29 : decode cX0_firstWrong 29 = .ok (.iinc 2 1, 3) := by decide +kernel
theorem dX0_firstWrong_32 : decode cX0_firstWrong 32 = .ok (.goto (-30), 3) := by decide +kernel
theorem dX0_firstWrong_35 : decode cX0_firstWrong 35 = .ok (.iconst (-1), 1) := by decide +kernel
theorem dX0_firstWrong_36 : decode cX0_firstWrong 36 = .ok (.ireturn, 1) := by decide +kernel
theorem dX1_init_0 : decode cX1_init 0 = .ok (.aload_n 0, 1) := by decide +kernel
theorem dX1_init_1 : decode cX1_init 1 = .ok (.invokespecial 1, 3) := by decide +kernel
theorem dX1_init_4 : decode cX1_init 4 = .ok (.aload_n 0, 1) := by decide +kernel
theorem dX1_init_5 : decode cX1_init 5 = .ok (.new 7, 3) := by decide +kernel
theorem dX1_init_8 : decode cX1_init 8 = .ok (.dup, 1) := by decide +kernel
theorem dX1_init_9 : decode cX1_init 9 = .ok (.invokespecial 9, 3) := by decide +kernel
theorem dX1_init_12 : decode cX1_init 12 = .ok (.putfield 10, 3) := by decide +kernel
theorem dX1_init_15 : decode cX1_init 15 = .ok (.return_, 1) := by decide +kernel
theorem dX2_init_0 : decode cX2_init 0 = .ok (.aload_n 0, 1) := by decide +kernel
theorem dX2_init_1 : decode cX2_init 1 = .ok (.invokespecial 3, 3) := by decide +kernel
theorem dX2_init_4 : decode cX2_init 4 = .ok (.aload_n 0, 1) := by decide +kernel
theorem dX2_init_5 : decode cX2_init 5 = .ok (.bipush 12, 2) := by decide +kernel
theorem dX2_init_7 : decode cX2_init 7 = .ok (.newarray .int, 2) := by decide +kernel
theorem dX2_init_9 : decode cX2_init 9 = .ok (.putfield 9, 3) := by decide +kernel
theorem dX2_init_12 : decode cX2_init 12 = .ok (.aload_n 0, 1) := by decide +kernel
theorem dX2_init_13 : decode cX2_init 13 = .ok (.bipush 12, 2) := by decide +kernel
theorem dX2_init_15 : decode cX2_init 15 = .ok (.newarray .int, 2) := by decide +kernel
theorem dX2_init_17 : decode cX2_init 17 = .ok (.putfield 15, 3) := by decide +kernel
theorem dX2_init_20 : decode cX2_init 20 = .ok (.aload_n 0, 1) := by decide +kernel
theorem dX2_init_21 : decode cX2_init 21 = .ok (.bipush 6, 2) := by decide +kernel
theorem dX2_init_23 : decode cX2_init 23 = .ok (.newarray .int, 2) := by decide +kernel
theorem dX2_init_25 : decode cX2_init 25 = .ok (.putfield 18, 3) := by decide +kernel
theorem dX2_init_28 : decode cX2_init 28 = .ok (.aload_n 0, 1) := by decide +kernel
theorem dX2_init_29 : decode cX2_init 29 = .ok (.bipush 6, 2) := by decide +kernel
theorem dX2_init_31 : decode cX2_init 31 = .ok (.newarray .int, 2) := by decide +kernel
theorem dX2_init_33 : decode cX2_init 33 = .ok (.putfield 21, 3) := by decide +kernel
theorem dX2_init_36 : decode cX2_init 36 = .ok (.return_, 1) := by decide +kernel
theorem dX2_clear_0 : decode cX2_clear 0 = .ok (.aload_n 0, 1) := by decide +kernel
theorem dX2_clear_1 : decode cX2_clear 1 = .ok (.iconst 0, 1) := by decide +kernel
theorem dX2_clear_2 : decode cX2_clear 2 = .ok (.putfield 24, 3) := by decide +kernel
theorem dX2_clear_5 : decode cX2_clear 5 = .ok (.aload_n 0, 1) := by decide +kernel
theorem dX2_clear_6 : decode cX2_clear 6 = .ok (.iconst 0, 1) := by decide +kernel
theorem dX2_clear_7 : decode cX2_clear 7 = .ok (.putfield 28, 3) := by decide +kernel
theorem dX2_clear_10 : decode cX2_clear 10 = .ok (.aload_n 0, 1) := by decide +kernel
theorem dX2_clear_11 : decode cX2_clear 11 = .ok (.iconst 0, 1) := by decide +kernel
theorem dX2_clear_12 : decode cX2_clear 12 = .ok (.putfield 32, 3) := by decide +kernel
theorem dX2_clear_15 : decode cX2_clear 15 = .ok (.aload_n 0, 1) := by decide +kernel
theorem dX2_clear_16 : decode cX2_clear 16 = .ok (.iconst 0, 1) := by decide +kernel
theorem dX2_clear_17 : decode cX2_clear 17 = .ok (.putfield 35, 3) := by decide +kernel
theorem dX2_clear_20 : decode cX2_clear 20 = .ok (.aload_n 0, 1) := by decide +kernel
theorem dX2_clear_21 : decode cX2_clear 21 = .ok (.iconst 0, 1) := by decide +kernel
theorem dX2_clear_22 : decode cX2_clear 22 = .ok (.putfield 38, 3) := by decide +kernel
theorem dX2_clear_25 : decode cX2_clear 25 = .ok (.aload_n 0, 1) := by decide +kernel
theorem dX2_clear_26 : decode cX2_clear 26 = .ok (.iconst 0, 1) := by decide +kernel
theorem dX2_clear_27 : decode cX2_clear 27 = .ok (.putfield 41, 3) := by decide +kernel
theorem dX2_clear_30 : decode cX2_clear 30 = .ok (.aload_n 0, 1) := by decide +kernel
theorem dX2_clear_31 : decode cX2_clear 31 = .ok (.iconst 0, 1) := by decide +kernel
theorem dX2_clear_32 : decode cX2_clear 32 = .ok (.putfield 44, 3) := by decide +kernel
theorem dX2_clear_35 : decode cX2_clear 35 = .ok (.return_, 1) := by decide +kernel
theorem dX2_addRoom_0 : decode cX2_addRoom 0 = .ok (.aload_n 0, 1) := by decide +kernel
theorem dX2_addRoom_1 : decode cX2_addRoom 1 = .ok (.aload_n 0, 1) := by decide +kernel
theorem dX2_addRoom_2 : decode cX2_addRoom 2 = .ok (.getfield 41, 3) := by decide +kernel
theorem dX2_addRoom_5 : decode cX2_addRoom 5 = .ok (.aload_n 0, 1) := by decide +kernel
theorem dX2_addRoom_6 : decode cX2_addRoom 6 = .ok (.getfield 32, 3) := by decide +kernel
theorem dX2_addRoom_9 : decode cX2_addRoom 9 = .ok (.iload_n 1, 1) := by decide +kernel
theorem dX2_addRoom_10 : decode cX2_addRoom 10 = .ok (.invokestatic 47, 3) := by decide +kernel
theorem dX2_addRoom_13 : decode cX2_addRoom 13 = .ok (.putfield 41, 3) := by decide +kernel
theorem dX2_addRoom_16 : decode cX2_addRoom 16 = .ok (.aload_n 0, 1) := by decide +kernel
theorem dX2_addRoom_17 : decode cX2_addRoom 17 = .ok (.aload_n 0, 1) := by decide +kernel
theorem dX2_addRoom_18 : decode cX2_addRoom 18 = .ok (.getfield 44, 3) := by decide +kernel
theorem dX2_addRoom_21 : decode cX2_addRoom 21 = .ok (.aload_n 0, 1) := by decide +kernel
theorem dX2_addRoom_22 : decode cX2_addRoom 22 = .ok (.getfield 32, 3) := by decide +kernel
theorem dX2_addRoom_25 : decode cX2_addRoom 25 = .ok (.iload_n 2, 1) := by decide +kernel
theorem dX2_addRoom_26 : decode cX2_addRoom 26 = .ok (.iconst 1, 1) := by decide +kernel
theorem dX2_addRoom_27 : decode cX2_addRoom 27 = .ok (.if_icmp .ne 7, 3) := by decide +kernel
theorem dX2_addRoom_30 : decode cX2_addRoom 30 = .ok (.iconst 1, 1) := by decide +kernel
theorem dX2_addRoom_31 : decode cX2_addRoom 31 = .ok (.goto 4, 3) := by decide +kernel
theorem dX2_addRoom_34 : decode cX2_addRoom 34 = .ok (.iconst 0, 1) := by decide +kernel
theorem dX2_addRoom_35 : decode cX2_addRoom 35 = .ok (.invokestatic 51, 3) := by decide +kernel
theorem dX2_addRoom_38 : decode cX2_addRoom 38 = .ok (.putfield 44, 3) := by decide +kernel
theorem dX2_addRoom_41 : decode cX2_addRoom 41 = .ok (.aload_n 0, 1) := by decide +kernel
theorem dX2_addRoom_42 : decode cX2_addRoom 42 = .ok (.dup, 1) := by decide +kernel
theorem dX2_addRoom_43 : decode cX2_addRoom 43 = .ok (.getfield 32, 3) := by decide +kernel
theorem dX2_addRoom_46 : decode cX2_addRoom 46 = .ok (.iconst 1, 1) := by decide +kernel
theorem dX2_addRoom_47 : decode cX2_addRoom 47 = .ok (.iadd, 1) := by decide +kernel
theorem dX2_addRoom_48 : decode cX2_addRoom 48 = .ok (.putfield 32, 3) := by decide +kernel
theorem dX2_addRoom_51 : decode cX2_addRoom 51 = .ok (.return_, 1) := by decide +kernel
theorem dX2_addDoor_0 : decode cX2_addDoor 0 = .ok (.aload_n 0, 1) := by decide +kernel
theorem dX2_addDoor_1 : decode cX2_addDoor 1 = .ok (.getfield 9, 3) := by decide +kernel
theorem dX2_addDoor_4 : decode cX2_addDoor 4 = .ok (.aload_n 0, 1) := by decide +kernel
theorem dX2_addDoor_5 : decode cX2_addDoor 5 = .ok (.getfield 35, 3) := by decide +kernel
theorem dX2_addDoor_8 : decode cX2_addDoor 8 = .ok (.iload_n 1, 1) := by decide +kernel
theorem dX2_addDoor_9 : decode cX2_addDoor 9 = .ok (.iastore, 1) := by decide +kernel
theorem dX2_addDoor_10 : decode cX2_addDoor 10 = .ok (.aload_n 0, 1) := by decide +kernel
theorem dX2_addDoor_11 : decode cX2_addDoor 11 = .ok (.getfield 15, 3) := by decide +kernel
theorem dX2_addDoor_14 : decode cX2_addDoor 14 = .ok (.aload_n 0, 1) := by decide +kernel
theorem dX2_addDoor_15 : decode cX2_addDoor 15 = .ok (.getfield 35, 3) := by decide +kernel
theorem dX2_addDoor_18 : decode cX2_addDoor 18 = .ok (.iload_n 2, 1) := by decide +kernel
theorem dX2_addDoor_19 : decode cX2_addDoor 19 = .ok (.iastore, 1) := by decide +kernel
theorem dX2_addDoor_20 : decode cX2_addDoor 20 = .ok (.aload_n 0, 1) := by decide +kernel
theorem dX2_addDoor_21 : decode cX2_addDoor 21 = .ok (.dup, 1) := by decide +kernel
theorem dX2_addDoor_22 : decode cX2_addDoor 22 = .ok (.getfield 35, 3) := by decide +kernel
theorem dX2_addDoor_25 : decode cX2_addDoor 25 = .ok (.iconst 1, 1) := by decide +kernel
theorem dX2_addDoor_26 : decode cX2_addDoor 26 = .ok (.iadd, 1) := by decide +kernel
theorem dX2_addDoor_27 : decode cX2_addDoor 27 = .ok (.putfield 35, 3) := by decide +kernel
theorem dX2_addDoor_30 : decode cX2_addDoor 30 = .ok (.return_, 1) := by decide +kernel
theorem dX2_addPetition_0 : decode cX2_addPetition 0 = .ok (.aload_n 0, 1) := by decide +kernel
theorem dX2_addPetition_1 : decode cX2_addPetition 1 = .ok (.getfield 18, 3) := by decide +kernel
theorem dX2_addPetition_4 : decode cX2_addPetition 4 = .ok (.aload_n 0, 1) := by decide +kernel
theorem dX2_addPetition_5 : decode cX2_addPetition 5 = .ok (.getfield 38, 3) := by decide +kernel
theorem dX2_addPetition_8 : decode cX2_addPetition 8 = .ok (.iload_n 1, 1) := by decide +kernel
theorem dX2_addPetition_9 : decode cX2_addPetition 9 = .ok (.iastore, 1) := by decide +kernel
theorem dX2_addPetition_10 : decode cX2_addPetition 10 = .ok (.aload_n 0, 1) := by decide +kernel
theorem dX2_addPetition_11 : decode cX2_addPetition 11 = .ok (.getfield 21, 3) := by decide +kernel
theorem dX2_addPetition_14 : decode cX2_addPetition 14 = .ok (.aload_n 0, 1) := by decide +kernel
theorem dX2_addPetition_15 : decode cX2_addPetition 15 = .ok (.getfield 38, 3) := by decide +kernel
theorem dX2_addPetition_18 : decode cX2_addPetition 18 = .ok (.iload_n 2, 1) := by decide +kernel
theorem dX2_addPetition_19 : decode cX2_addPetition 19 = .ok (.iastore, 1) := by decide +kernel
theorem dX2_addPetition_20 : decode cX2_addPetition 20 = .ok (.aload_n 0, 1) := by decide +kernel
theorem dX2_addPetition_21 : decode cX2_addPetition 21 = .ok (.dup, 1) := by decide +kernel
theorem dX2_addPetition_22 : decode cX2_addPetition 22 = .ok (.getfield 38, 3) := by decide +kernel
theorem dX2_addPetition_25 : decode cX2_addPetition 25 = .ok (.iconst 1, 1) := by decide +kernel
theorem dX2_addPetition_26 : decode cX2_addPetition 26 = .ok (.iadd, 1) := by decide +kernel
theorem dX2_addPetition_27 : decode cX2_addPetition 27 = .ok (.putfield 38, 3) := by decide +kernel
theorem dX2_addPetition_30 : decode cX2_addPetition 30 = .ok (.return_, 1) := by decide +kernel
theorem dX2_hasDoor_0 : decode cX2_hasDoor 0 = .ok (.iconst 0, 1) := by decide +kernel
theorem dX2_hasDoor_1 : decode cX2_hasDoor 1 = .ok (.istore_n 3, 1) := by decide +kernel
theorem dX2_hasDoor_2 : decode cX2_hasDoor 2 = .ok (.iload_n 3, 1) := by decide +kernel
theorem dX2_hasDoor_3 : decode cX2_hasDoor 3 = .ok (.aload_n 0, 1) := by decide +kernel
theorem dX2_hasDoor_4 : decode cX2_hasDoor 4 = .ok (.getfield 35, 3) := by decide +kernel
theorem dX2_hasDoor_7 : decode cX2_hasDoor 7 = .ok (.if_icmp .ge 51, 3) := by decide +kernel
theorem dX2_hasDoor_10 : decode cX2_hasDoor 10 = .ok (.aload_n 0, 1) := by decide +kernel
theorem dX2_hasDoor_11 : decode cX2_hasDoor 11 = .ok (.getfield 9, 3) := by decide +kernel
theorem dX2_hasDoor_14 : decode cX2_hasDoor 14 = .ok (.iload_n 3, 1) := by decide +kernel
theorem dX2_hasDoor_15 : decode cX2_hasDoor 15 = .ok (.iaload, 1) := by decide +kernel
theorem dX2_hasDoor_16 : decode cX2_hasDoor 16 = .ok (.iload_n 1, 1) := by decide +kernel
theorem dX2_hasDoor_17 : decode cX2_hasDoor 17 = .ok (.if_icmp .ne 13, 3) := by decide +kernel
theorem dX2_hasDoor_20 : decode cX2_hasDoor 20 = .ok (.aload_n 0, 1) := by decide +kernel
theorem dX2_hasDoor_21 : decode cX2_hasDoor 21 = .ok (.getfield 15, 3) := by decide +kernel
theorem dX2_hasDoor_24 : decode cX2_hasDoor 24 = .ok (.iload_n 3, 1) := by decide +kernel
theorem dX2_hasDoor_25 : decode cX2_hasDoor 25 = .ok (.iaload, 1) := by decide +kernel
theorem dX2_hasDoor_26 : decode cX2_hasDoor 26 = .ok (.iload_n 2, 1) := by decide +kernel
theorem dX2_hasDoor_27 : decode cX2_hasDoor 27 = .ok (.if_icmp .eq 23, 3) := by decide +kernel
theorem dX2_hasDoor_30 : decode cX2_hasDoor 30 = .ok (.aload_n 0, 1) := by decide +kernel
theorem dX2_hasDoor_31 : decode cX2_hasDoor 31 = .ok (.getfield 9, 3) := by decide +kernel
theorem dX2_hasDoor_34 : decode cX2_hasDoor 34 = .ok (.iload_n 3, 1) := by decide +kernel
theorem dX2_hasDoor_35 : decode cX2_hasDoor 35 = .ok (.iaload, 1) := by decide +kernel
theorem dX2_hasDoor_36 : decode cX2_hasDoor 36 = .ok (.iload_n 2, 1) := by decide +kernel
theorem dX2_hasDoor_37 : decode cX2_hasDoor 37 = .ok (.if_icmp .ne 15, 3) := by decide +kernel
theorem dX2_hasDoor_40 : decode cX2_hasDoor 40 = .ok (.aload_n 0, 1) := by decide +kernel
theorem dX2_hasDoor_41 : decode cX2_hasDoor 41 = .ok (.getfield 15, 3) := by decide +kernel
theorem dX2_hasDoor_44 : decode cX2_hasDoor 44 = .ok (.iload_n 3, 1) := by decide +kernel
theorem dX2_hasDoor_45 : decode cX2_hasDoor 45 = .ok (.iaload, 1) := by decide +kernel
theorem dX2_hasDoor_46 : decode cX2_hasDoor 46 = .ok (.iload_n 1, 1) := by decide +kernel
theorem dX2_hasDoor_47 : decode cX2_hasDoor 47 = .ok (.if_icmp .ne 5, 3) := by decide +kernel
theorem dX2_hasDoor_50 : decode cX2_hasDoor 50 = .ok (.iconst 1, 1) := by decide +kernel
theorem dX2_hasDoor_51 : decode cX2_hasDoor 51 = .ok (.ireturn, 1) := by decide +kernel
theorem dX2_hasDoor_52 : decode cX2_hasDoor 52 = .ok (.iinc 3 1, 3) := by decide +kernel
theorem dX2_hasDoor_55 : decode cX2_hasDoor 55 = .ok (.goto (-53), 3) := by decide +kernel
theorem dX2_hasDoor_58 : decode cX2_hasDoor 58 = .ok (.iconst 0, 1) := by decide +kernel
theorem dX2_hasDoor_59 : decode cX2_hasDoor 59 = .ok (.ireturn, 1) := by decide +kernel
theorem dX2_doorsBetween_0 : decode cX2_doorsBetween 0 = .ok (.iconst 0, 1) := by decide +kernel
theorem dX2_doorsBetween_1 : decode cX2_doorsBetween 1 = .ok (.istore_n 2, 1) := by decide +kernel
theorem dX2_doorsBetween_2 : decode cX2_doorsBetween 2 = .ok (.iconst 0, 1) := by decide +kernel
theorem dX2_doorsBetween_3 : decode cX2_doorsBetween 3 = .ok (.istore_n 3, 1) := by decide +kernel
theorem dX2_doorsBetween_4 : decode cX2_doorsBetween 4 = .ok (.iload_n 3, 1) := by decide +kernel
theorem dX2_doorsBetween_5 : decode cX2_doorsBetween 5 = .ok (.aload_n 0, 1) := by decide +kernel
theorem dX2_doorsBetween_6 : decode cX2_doorsBetween 6 = .ok (.getfield 35, 3) := by decide +kernel
theorem dX2_doorsBetween_9 : decode cX2_doorsBetween 9 = .ok (.if_icmp .ge 38, 3) := by decide +kernel
theorem dX2_doorsBetween_12 : decode cX2_doorsBetween 12 = .ok (.iload_n 1, 1) := by decide +kernel
theorem dX2_doorsBetween_13 : decode cX2_doorsBetween 13 = .ok (.aload_n 0, 1) := by decide +kernel
theorem dX2_doorsBetween_14 : decode cX2_doorsBetween 14 = .ok (.getfield 9, 3) := by decide +kernel
theorem dX2_doorsBetween_17 : decode cX2_doorsBetween 17 = .ok (.iload_n 3, 1) := by decide +kernel
theorem dX2_doorsBetween_18 : decode cX2_doorsBetween 18 = .ok (.iaload, 1) := by decide +kernel
theorem dX2_doorsBetween_19 : decode cX2_doorsBetween 19 = .ok (.invokestatic 55, 3) := by decide +kernel
theorem dX2_doorsBetween_22 : decode cX2_doorsBetween 22 = .ok (.iload_n 1, 1) := by decide +kernel
theorem dX2_doorsBetween_23 : decode cX2_doorsBetween 23 = .ok (.aload_n 0, 1) := by decide +kernel
theorem dX2_doorsBetween_24 : decode cX2_doorsBetween 24 = .ok (.getfield 15, 3) := by decide +kernel
theorem dX2_doorsBetween_27 : decode cX2_doorsBetween 27 = .ok (.iload_n 3, 1) := by decide +kernel
theorem dX2_doorsBetween_28 : decode cX2_doorsBetween 28 = .ok (.iaload, 1) := by decide +kernel
theorem dX2_doorsBetween_29 : decode cX2_doorsBetween 29 = .ok (.invokestatic 55, 3) := by decide +kernel
theorem dX2_doorsBetween_32 : decode cX2_doorsBetween 32 = .ok (.if_icmp .eq 9, 3) := by decide +kernel
theorem dX2_doorsBetween_35 : decode cX2_doorsBetween 35 = .ok (.iload_n 2, 1) := by decide +kernel
theorem dX2_doorsBetween_36 : decode cX2_doorsBetween 36 = .ok (.iconst 1, 1) := by decide +kernel
theorem dX2_doorsBetween_37 : decode cX2_doorsBetween 37 = .ok (.iload_n 3, 1) := by decide +kernel
theorem dX2_doorsBetween_38 : decode cX2_doorsBetween 38 = .ok (.ishl, 1) := by decide +kernel
theorem dX2_doorsBetween_39 : decode cX2_doorsBetween 39 = .ok (.ior, 1) := by decide +kernel
theorem dX2_doorsBetween_40 : decode cX2_doorsBetween 40 = .ok (.istore_n 2, 1) := by decide +kernel
theorem dX2_doorsBetween_41 : decode cX2_doorsBetween 41 = .ok (.iinc 3 1, 3) := by decide +kernel
theorem dX2_doorsBetween_44 : decode cX2_doorsBetween 44 = .ok (.goto (-40), 3) := by decide +kernel
theorem dX2_doorsBetween_47 : decode cX2_doorsBetween 47 = .ok (.iload_n 2, 1) := by decide +kernel
theorem dX2_doorsBetween_48 : decode cX2_doorsBetween 48 = .ok (.ireturn, 1) := by decide +kernel
theorem dX3_init_0 : decode cX3_init 0 = .ok (.aload_n 0, 1) := by decide +kernel
theorem dX3_init_1 : decode cX3_init 1 = .ok (.invokespecial 3, 3) := by decide +kernel
theorem dX3_init_4 : decode cX3_init 4 = .ok (.aload_n 0, 1) := by decide +kernel
theorem dX3_init_5 : decode cX3_init 5 = .ok (.bipush 16, 2) := by decide +kernel
theorem dX3_init_7 : decode cX3_init 7 = .ok (.anewarray 9, 3) := by decide +kernel
theorem dX3_init_10 : decode cX3_init 10 = .ok (.putfield 11, 3) := by decide +kernel
theorem dX3_init_13 : decode cX3_init 13 = .ok (.iconst 0, 1) := by decide +kernel
theorem dX3_init_14 : decode cX3_init 14 = .ok (.istore_n 1, 1) := by decide +kernel
theorem dX3_init_15 : decode cX3_init 15 = .ok (.iload_n 1, 1) := by decide +kernel
theorem dX3_init_16 : decode cX3_init 16 = .ok (.bipush 16, 2) := by decide +kernel
theorem dX3_init_18 : decode cX3_init 18 = .ok (.if_icmp .ge 22, 3) := by decide +kernel
theorem dX3_init_21 : decode cX3_init 21 = .ok (.aload_n 0, 1) := by decide +kernel
theorem dX3_init_22 : decode cX3_init 22 = .ok (.getfield 11, 3) := by decide +kernel
theorem dX3_init_25 : decode cX3_init 25 = .ok (.iload_n 1, 1) := by decide +kernel
theorem dX3_init_26 : decode cX3_init 26 = .ok (.new 9, 3) := by decide +kernel
theorem dX3_init_29 : decode cX3_init 29 = .ok (.dup, 1) := by decide +kernel
theorem dX3_init_30 : decode cX3_init 30 = .ok (.invokespecial 17, 3) := by decide +kernel
theorem dX3_init_33 : decode cX3_init 33 = .ok (.aastore, 1) := by decide +kernel
theorem dX3_init_34 : decode cX3_init 34 = .ok (.iinc 1 1, 3) := by decide +kernel
theorem dX3_init_37 : decode cX3_init 37 = .ok (.goto (-22), 3) := by decide +kernel
theorem dX3_init_40 : decode cX3_init 40 = .ok (.return_, 1) := by decide +kernel
theorem dX3_forget_0 : decode cX3_forget 0 = .ok (.aload_n 0, 1) := by decide +kernel
theorem dX3_forget_1 : decode cX3_forget 1 = .ok (.iconst 0, 1) := by decide +kernel
theorem dX3_forget_2 : decode cX3_forget 2 = .ok (.putfield 18, 3) := by decide +kernel
theorem dX3_forget_5 : decode cX3_forget 5 = .ok (.return_, 1) := by decide +kernel
theorem dX3_remember_0 : decode cX3_remember 0 = .ok (.aload_n 0, 1) := by decide +kernel
theorem dX3_remember_1 : decode cX3_remember 1 = .ok (.getfield 11, 3) := by decide +kernel
theorem dX3_remember_4 : decode cX3_remember 4 = .ok (.aload_n 0, 1) := by decide +kernel
theorem dX3_remember_5 : decode cX3_remember 5 = .ok (.getfield 22, 3) := by decide +kernel
theorem dX3_remember_8 : decode cX3_remember 8 = .ok (.aaload, 1) := by decide +kernel
theorem dX3_remember_9 : decode cX3_remember 9 = .ok (.aload_n 1, 1) := by decide +kernel
theorem dX3_remember_10 : decode cX3_remember 10 = .ok (.invokevirtual 25, 3) := by decide +kernel
theorem dX3_remember_13 : decode cX3_remember 13 = .ok (.aload_n 0, 1) := by decide +kernel
theorem dX3_remember_14 : decode cX3_remember 14 = .ok (.aload_n 0, 1) := by decide +kernel
theorem dX3_remember_15 : decode cX3_remember 15 = .ok (.getfield 22, 3) := by decide +kernel
theorem dX3_remember_18 : decode cX3_remember 18 = .ok (.iconst 1, 1) := by decide +kernel
theorem dX3_remember_19 : decode cX3_remember 19 = .ok (.iadd, 1) := by decide +kernel
theorem dX3_remember_20 : decode cX3_remember 20 = .ok (.bipush 16, 2) := by decide +kernel
theorem dX3_remember_22 : decode cX3_remember 22 = .ok (.irem, 1) := by decide +kernel
theorem dX3_remember_23 : decode cX3_remember 23 = .ok (.putfield 22, 3) := by decide +kernel
theorem dX3_remember_26 : decode cX3_remember 26 = .ok (.aload_n 0, 1) := by decide +kernel
theorem dX3_remember_27 : decode cX3_remember 27 = .ok (.bipush 16, 2) := by decide +kernel
theorem dX3_remember_29 : decode cX3_remember 29 = .ok (.aload_n 0, 1) := by decide +kernel
theorem dX3_remember_30 : decode cX3_remember 30 = .ok (.getfield 18, 3) := by decide +kernel
theorem dX3_remember_33 : decode cX3_remember 33 = .ok (.iconst 1, 1) := by decide +kernel
theorem dX3_remember_34 : decode cX3_remember 34 = .ok (.iadd, 1) := by decide +kernel
theorem dX3_remember_35 : decode cX3_remember 35 = .ok (.invokestatic 29, 3) := by decide +kernel
theorem dX3_remember_38 : decode cX3_remember 38 = .ok (.putfield 18, 3) := by decide +kernel
theorem dX3_remember_41 : decode cX3_remember 41 = .ok (.return_, 1) := by decide +kernel
theorem dX3_giveBack_0 : decode cX3_giveBack 0 = .ok (.aload_n 0, 1) := by decide +kernel
theorem dX3_giveBack_1 : decode cX3_giveBack 1 = .ok (.getfield 18, 3) := by decide +kernel
theorem dX3_giveBack_4 : decode cX3_giveBack 4 = .ok (.ifCond .le 42, 3) := by decide +kernel
theorem dX3_giveBack_7 : decode cX3_giveBack 7 = .ok (.aload_n 0, 1) := by decide +kernel
theorem dX3_giveBack_8 : decode cX3_giveBack 8 = .ok (.aload_n 0, 1) := by decide +kernel
theorem dX3_giveBack_9 : decode cX3_giveBack 9 = .ok (.getfield 22, 3) := by decide +kernel
theorem dX3_giveBack_12 : decode cX3_giveBack 12 = .ok (.bipush 16, 2) := by decide +kernel
theorem dX3_giveBack_14 : decode cX3_giveBack 14 = .ok (.iadd, 1) := by decide +kernel
theorem dX3_giveBack_15 : decode cX3_giveBack 15 = .ok (.iconst 1, 1) := by decide +kernel
theorem dX3_giveBack_16 : decode cX3_giveBack 16 = .ok (.isub, 1) := by decide +kernel
theorem dX3_giveBack_17 : decode cX3_giveBack 17 = .ok (.bipush 16, 2) := by decide +kernel
theorem dX3_giveBack_19 : decode cX3_giveBack 19 = .ok (.irem, 1) := by decide +kernel
theorem dX3_giveBack_20 : decode cX3_giveBack 20 = .ok (.putfield 22, 3) := by decide +kernel
theorem dX3_giveBack_23 : decode cX3_giveBack 23 = .ok (.aload_n 0, 1) := by decide +kernel
theorem dX3_giveBack_24 : decode cX3_giveBack 24 = .ok (.dup, 1) := by decide +kernel
theorem dX3_giveBack_25 : decode cX3_giveBack 25 = .ok (.getfield 18, 3) := by decide +kernel
theorem dX3_giveBack_28 : decode cX3_giveBack 28 = .ok (.iconst 1, 1) := by decide +kernel
theorem dX3_giveBack_29 : decode cX3_giveBack 29 = .ok (.isub, 1) := by decide +kernel
theorem dX3_giveBack_30 : decode cX3_giveBack 30 = .ok (.putfield 18, 3) := by decide +kernel
theorem dX3_giveBack_33 : decode cX3_giveBack 33 = .ok (.aload_n 1, 1) := by decide +kernel
theorem dX3_giveBack_34 : decode cX3_giveBack 34 = .ok (.aload_n 0, 1) := by decide +kernel
theorem dX3_giveBack_35 : decode cX3_giveBack 35 = .ok (.getfield 11, 3) := by decide +kernel
theorem dX3_giveBack_38 : decode cX3_giveBack 38 = .ok (.aload_n 0, 1) := by decide +kernel
theorem dX3_giveBack_39 : decode cX3_giveBack 39 = .ok (.getfield 22, 3) := by decide +kernel
theorem dX3_giveBack_42 : decode cX3_giveBack 42 = .ok (.aaload, 1) := by decide +kernel
theorem dX3_giveBack_43 : decode cX3_giveBack 43 = .ok (.invokevirtual 25, 3) := by decide +kernel
theorem dX3_giveBack_46 : decode cX3_giveBack 46 = .ok (.return_, 1) := by decide +kernel
theorem dX4_init_0 : decode cX4_init 0 = .ok (.aload_n 0, 1) := by decide +kernel
theorem dX4_init_1 : decode cX4_init 1 = .ok (.invokespecial 3, 3) := by decide +kernel
theorem dX4_init_4 : decode cX4_init 4 = .ok (.aload_n 0, 1) := by decide +kernel
theorem dX4_init_5 : decode cX4_init 5 = .ok (.bipush 8, 2) := by decide +kernel
theorem dX4_init_7 : decode cX4_init 7 = .ok (.newarray .int, 2) := by decide +kernel
theorem dX4_init_9 : decode cX4_init 9 = .ok (.putfield 9, 3) := by decide +kernel
theorem dX4_init_12 : decode cX4_init 12 = .ok (.return_, 1) := by decide +kernel
theorem dX4_begin_0 : decode cX4_begin 0 = .ok (.aload_n 0, 1) := by decide +kernel
theorem dX4_begin_1 : decode cX4_begin 1 = .ok (.aload_n 1, 1) := by decide +kernel
theorem dX4_begin_2 : decode cX4_begin 2 = .ok (.getfield 15, 3) := by decide +kernel
theorem dX4_begin_5 : decode cX4_begin 5 = .ok (.putfield 21, 3) := by decide +kernel
theorem dX4_begin_8 : decode cX4_begin 8 = .ok (.aload_n 0, 1) := by decide +kernel
theorem dX4_begin_9 : decode cX4_begin 9 = .ok (.iconst 0, 1) := by decide +kernel
theorem dX4_begin_10 : decode cX4_begin 10 = .ok (.putfield 22, 3) := by decide +kernel
theorem dX4_begin_13 : decode cX4_begin 13 = .ok (.aload_n 0, 1) := by decide +kernel
theorem dX4_begin_14 : decode cX4_begin 14 = .ok (.iconst 0, 1) := by decide +kernel
theorem dX4_begin_15 : decode cX4_begin 15 = .ok (.putfield 25, 3) := by decide +kernel
theorem dX4_begin_18 : decode cX4_begin 18 = .ok (.aload_n 0, 1) := by decide +kernel
theorem dX4_begin_19 : decode cX4_begin 19 = .ok (.aload_n 1, 1) := by decide +kernel
theorem dX4_begin_20 : decode cX4_begin 20 = .ok (.getfield 28, 3) := by decide +kernel
theorem dX4_begin_23 : decode cX4_begin 23 = .ok (.putfield 31, 3) := by decide +kernel
theorem dX4_begin_26 : decode cX4_begin 26 = .ok (.aload_n 0, 1) := by decide +kernel
theorem dX4_begin_27 : decode cX4_begin 27 = .ok (.iconst 0, 1) := by decide +kernel
theorem dX4_begin_28 : decode cX4_begin 28 = .ok (.putfield 32, 3) := by decide +kernel
theorem dX4_begin_31 : decode cX4_begin 31 = .ok (.aload_n 0, 1) := by decide +kernel
theorem dX4_begin_32 : decode cX4_begin 32 = .ok (.aload_n 1, 1) := by decide +kernel
theorem dX4_begin_33 : decode cX4_begin 33 = .ok (.getfield 35, 3) := by decide +kernel
theorem dX4_begin_36 : decode cX4_begin 36 = .ok (.putfield 38, 3) := by decide +kernel
theorem dX4_begin_39 : decode cX4_begin 39 = .ok (.aload_n 0, 1) := by decide +kernel
theorem dX4_begin_40 : decode cX4_begin 40 = .ok (.iconst 0, 1) := by decide +kernel
theorem dX4_begin_41 : decode cX4_begin 41 = .ok (.putfield 39, 3) := by decide +kernel
theorem dX4_begin_44 : decode cX4_begin 44 = .ok (.aload_n 0, 1) := by decide +kernel
theorem dX4_begin_45 : decode cX4_begin 45 = .ok (.getfield 9, 3) := by decide +kernel
theorem dX4_begin_48 : decode cX4_begin 48 = .ok (.iconst 0, 1) := by decide +kernel
theorem dX4_begin_49 : decode cX4_begin 49 = .ok (.invokestatic 42, 3) := by decide +kernel
theorem dX4_begin_52 : decode cX4_begin 52 = .ok (.iconst 0, 1) := by decide +kernel
theorem dX4_begin_53 : decode cX4_begin 53 = .ok (.istore_n 2, 1) := by decide +kernel
theorem dX4_begin_54 : decode cX4_begin 54 = .ok (.iload_n 2, 1) := by decide +kernel
theorem dX4_begin_55 : decode cX4_begin 55 = .ok (.aload_n 1, 1) := by decide +kernel
theorem dX4_begin_56 : decode cX4_begin 56 = .ok (.getfield 48, 3) := by decide +kernel
theorem dX4_begin_59 : decode cX4_begin 59 = .ok (.if_icmp .ge 26, 3) := by decide +kernel
theorem dX4_begin_62 : decode cX4_begin 62 = .ok (.aload_n 0, 1) := by decide +kernel
theorem dX4_begin_63 : decode cX4_begin 63 = .ok (.aload_n 1, 1) := by decide +kernel
theorem dX4_begin_64 : decode cX4_begin 64 = .ok (.getfield 51, 3) := by decide +kernel
theorem dX4_begin_67 : decode cX4_begin 67 = .ok (.iload_n 2, 1) := by decide +kernel
theorem dX4_begin_68 : decode cX4_begin 68 = .ok (.iaload, 1) := by decide +kernel
theorem dX4_begin_69 : decode cX4_begin 69 = .ok (.aload_n 1, 1) := by decide +kernel
theorem dX4_begin_70 : decode cX4_begin 70 = .ok (.getfield 54, 3) := by decide +kernel
theorem dX4_begin_73 : decode cX4_begin 73 = .ok (.iload_n 2, 1) := by decide +kernel
theorem dX4_begin_74 : decode cX4_begin 74 = .ok (.iaload, 1) := by decide +kernel
theorem dX4_begin_75 : decode cX4_begin 75 = .ok (.iconst 1, 1) := by decide +kernel
theorem dX4_begin_76 : decode cX4_begin 76 = .ok (.invokevirtual 57, 3) := by decide +kernel
theorem dX4_begin_79 : decode cX4_begin 79 = .ok (.iinc 2 1, 3) := by decide +kernel
theorem dX4_begin_82 : decode cX4_begin 82 = .ok (.goto (-28), 3) := by decide +kernel
theorem dX4_begin_85 : decode cX4_begin 85 = .ok (.return_, 1) := by decide +kernel
theorem dX4_copyFrom_0 : decode cX4_copyFrom 0 = .ok (.aload_n 0, 1) := by decide +kernel
theorem dX4_copyFrom_1 : decode cX4_copyFrom 1 = .ok (.aload_n 1, 1) := by decide +kernel
theorem dX4_copyFrom_2 : decode cX4_copyFrom 2 = .ok (.getfield 21, 3) := by decide +kernel
theorem dX4_copyFrom_5 : decode cX4_copyFrom 5 = .ok (.putfield 21, 3) := by decide +kernel
theorem dX4_copyFrom_8 : decode cX4_copyFrom 8 = .ok (.aload_n 0, 1) := by decide +kernel
theorem dX4_copyFrom_9 : decode cX4_copyFrom 9 = .ok (.aload_n 1, 1) := by decide +kernel
theorem dX4_copyFrom_10 : decode cX4_copyFrom 10 = .ok (.getfield 22, 3) := by decide +kernel
theorem dX4_copyFrom_13 : decode cX4_copyFrom 13 = .ok (.putfield 22, 3) := by decide +kernel
theorem dX4_copyFrom_16 : decode cX4_copyFrom 16 = .ok (.aload_n 0, 1) := by decide +kernel
theorem dX4_copyFrom_17 : decode cX4_copyFrom 17 = .ok (.aload_n 1, 1) := by decide +kernel
theorem dX4_copyFrom_18 : decode cX4_copyFrom 18 = .ok (.getfield 25, 3) := by decide +kernel
theorem dX4_copyFrom_21 : decode cX4_copyFrom 21 = .ok (.putfield 25, 3) := by decide +kernel
theorem dX4_copyFrom_24 : decode cX4_copyFrom 24 = .ok (.aload_n 0, 1) := by decide +kernel
theorem dX4_copyFrom_25 : decode cX4_copyFrom 25 = .ok (.aload_n 1, 1) := by decide +kernel
theorem dX4_copyFrom_26 : decode cX4_copyFrom 26 = .ok (.getfield 31, 3) := by decide +kernel
theorem dX4_copyFrom_29 : decode cX4_copyFrom 29 = .ok (.putfield 31, 3) := by decide +kernel
theorem dX4_copyFrom_32 : decode cX4_copyFrom 32 = .ok (.aload_n 0, 1) := by decide +kernel
theorem dX4_copyFrom_33 : decode cX4_copyFrom 33 = .ok (.aload_n 1, 1) := by decide +kernel
theorem dX4_copyFrom_34 : decode cX4_copyFrom 34 = .ok (.getfield 32, 3) := by decide +kernel
theorem dX4_copyFrom_37 : decode cX4_copyFrom 37 = .ok (.putfield 32, 3) := by decide +kernel
theorem dX4_copyFrom_40 : decode cX4_copyFrom 40 = .ok (.aload_n 0, 1) := by decide +kernel
theorem dX4_copyFrom_41 : decode cX4_copyFrom 41 = .ok (.aload_n 1, 1) := by decide +kernel
theorem dX4_copyFrom_42 : decode cX4_copyFrom 42 = .ok (.getfield 38, 3) := by decide +kernel
theorem dX4_copyFrom_45 : decode cX4_copyFrom 45 = .ok (.putfield 38, 3) := by decide +kernel
theorem dX4_copyFrom_48 : decode cX4_copyFrom 48 = .ok (.aload_n 0, 1) := by decide +kernel
theorem dX4_copyFrom_49 : decode cX4_copyFrom 49 = .ok (.aload_n 1, 1) := by decide +kernel
theorem dX4_copyFrom_50 : decode cX4_copyFrom 50 = .ok (.getfield 39, 3) := by decide +kernel
theorem dX4_copyFrom_53 : decode cX4_copyFrom 53 = .ok (.putfield 39, 3) := by decide +kernel
theorem dX4_copyFrom_56 : decode cX4_copyFrom 56 = .ok (.aload_n 1, 1) := by decide +kernel
theorem dX4_copyFrom_57 : decode cX4_copyFrom 57 = .ok (.getfield 9, 3) := by decide +kernel
theorem dX4_copyFrom_60 : decode cX4_copyFrom 60 = .ok (.iconst 0, 1) := by decide +kernel
theorem dX4_copyFrom_61 : decode cX4_copyFrom 61 = .ok (.aload_n 0, 1) := by decide +kernel
theorem dX4_copyFrom_62 : decode cX4_copyFrom 62 = .ok (.getfield 9, 3) := by decide +kernel
theorem dX4_copyFrom_65 : decode cX4_copyFrom 65 = .ok (.iconst 0, 1) := by decide +kernel
theorem dX4_copyFrom_66 : decode cX4_copyFrom 66 = .ok (.bipush 8, 2) := by decide +kernel
theorem dX4_copyFrom_68 : decode cX4_copyFrom 68 = .ok (.invokestatic 61, 3) := by decide +kernel
theorem dX4_copyFrom_71 : decode cX4_copyFrom 71 = .ok (.return_, 1) := by decide +kernel
theorem dX4_openDoor_0 : decode cX4_openDoor 0 = .ok (.aload_n 0, 1) := by decide +kernel
theorem dX4_openDoor_1 : decode cX4_openDoor 1 = .ok (.getfield 9, 3) := by decide +kernel
theorem dX4_openDoor_4 : decode cX4_openDoor 4 = .ok (.iload_n 1, 1) := by decide +kernel
theorem dX4_openDoor_5 : decode cX4_openDoor 5 = .ok (.aload_n 0, 1) := by decide +kernel
theorem dX4_openDoor_6 : decode cX4_openDoor 6 = .ok (.getfield 9, 3) := by decide +kernel
theorem dX4_openDoor_9 : decode cX4_openDoor 9 = .ok (.iload_n 1, 1) := by decide +kernel
theorem dX4_openDoor_10 : decode cX4_openDoor 10 = .ok (.iaload, 1) := by decide +kernel
theorem dX4_openDoor_11 : decode cX4_openDoor 11 = .ok (.iload_n 2, 1) := by decide +kernel
theorem dX4_openDoor_12 : decode cX4_openDoor 12 = .ok (.iload_n 3, 1) := by decide +kernel
theorem dX4_openDoor_13 : decode cX4_openDoor 13 = .ok (.invokestatic 67, 3) := by decide +kernel
theorem dX4_openDoor_16 : decode cX4_openDoor 16 = .ok (.iastore, 1) := by decide +kernel
theorem dX4_openDoor_17 : decode cX4_openDoor 17 = .ok (.aload_n 0, 1) := by decide +kernel
theorem dX4_openDoor_18 : decode cX4_openDoor 18 = .ok (.getfield 9, 3) := by decide +kernel
theorem dX4_openDoor_21 : decode cX4_openDoor 21 = .ok (.iload_n 2, 1) := by decide +kernel
theorem dX4_openDoor_22 : decode cX4_openDoor 22 = .ok (.aload_n 0, 1) := by decide +kernel
theorem dX4_openDoor_23 : decode cX4_openDoor 23 = .ok (.getfield 9, 3) := by decide +kernel
theorem dX4_openDoor_26 : decode cX4_openDoor 26 = .ok (.iload_n 2, 1) := by decide +kernel
theorem dX4_openDoor_27 : decode cX4_openDoor 27 = .ok (.iaload, 1) := by decide +kernel
theorem dX4_openDoor_28 : decode cX4_openDoor 28 = .ok (.iload_n 1, 1) := by decide +kernel
theorem dX4_openDoor_29 : decode cX4_openDoor 29 = .ok (.iload_n 3, 1) := by decide +kernel
theorem dX4_openDoor_30 : decode cX4_openDoor 30 = .ok (.invokestatic 67, 3) := by decide +kernel
theorem dX4_openDoor_33 : decode cX4_openDoor 33 = .ok (.iastore, 1) := by decide +kernel
theorem dX4_openDoor_34 : decode cX4_openDoor 34 = .ok (.return_, 1) := by decide +kernel
theorem dX4_isWorn_0 : decode cX4_isWorn 0 = .ok (.aload_n 0, 1) := by decide +kernel
theorem dX4_isWorn_1 : decode cX4_isWorn 1 = .ok (.getfield 25, 3) := by decide +kernel
theorem dX4_isWorn_4 : decode cX4_isWorn 4 = .ok (.bipush 50, 2) := by decide +kernel
theorem dX4_isWorn_6 : decode cX4_isWorn 6 = .ok (.if_icmp .lt 7, 3) := by decide +kernel
theorem dX4_isWorn_9 : decode cX4_isWorn 9 = .ok (.iconst 1, 1) := by decide +kernel
theorem dX4_isWorn_10 : decode cX4_isWorn 10 = .ok (.goto 4, 3) := by decide +kernel
theorem dX4_isWorn_13 : decode cX4_isWorn 13 = .ok (.iconst 0, 1) := by decide +kernel
theorem dX4_isWorn_14 : decode cX4_isWorn 14 = .ok (.ireturn, 1) := by decide +kernel
theorem dX4_roomsAhead_0 : decode cX4_roomsAhead 0 = .ok (.aload_n 0, 1) := by decide +kernel
theorem dX4_roomsAhead_1 : decode cX4_roomsAhead 1 = .ok (.getfield 9, 3) := by decide +kernel
theorem dX4_roomsAhead_4 : decode cX4_roomsAhead 4 = .ok (.aload_n 0, 1) := by decide +kernel
theorem dX4_roomsAhead_5 : decode cX4_roomsAhead 5 = .ok (.getfield 22, 3) := by decide +kernel
theorem dX4_roomsAhead_8 : decode cX4_roomsAhead 8 = .ok (.iaload, 1) := by decide +kernel
theorem dX4_roomsAhead_9 : decode cX4_roomsAhead 9 = .ok (.aload_n 0, 1) := by decide +kernel
theorem dX4_roomsAhead_10 : decode cX4_roomsAhead 10 = .ok (.getfield 39, 3) := by decide +kernel
theorem dX4_roomsAhead_13 : decode cX4_roomsAhead 13 = .ok (.iconst (-1), 1) := by decide +kernel
theorem dX4_roomsAhead_14 : decode cX4_roomsAhead 14 = .ok (.ixor, 1) := by decide +kernel
theorem dX4_roomsAhead_15 : decode cX4_roomsAhead 15 = .ok (.iand, 1) := by decide +kernel
theorem dX4_roomsAhead_16 : decode cX4_roomsAhead 16 = .ok (.ireturn, 1) := by decide +kernel
theorem dX4_pullNow_0 : decode cX4_pullNow 0 = .ok (.aload_n 0, 1) := by decide +kernel
theorem dX4_pullNow_1 : decode cX4_pullNow 1 = .ok (.getfield 21, 3) := by decide +kernel
theorem dX4_pullNow_4 : decode cX4_pullNow 4 = .ok (.iload_n 1, 1) := by decide +kernel
theorem dX4_pullNow_5 : decode cX4_pullNow 5 = .ok (.aload_n 0, 1) := by decide +kernel
theorem dX4_pullNow_6 : decode cX4_pullNow 6 = .ok (.getfield 31, 3) := by decide +kernel
theorem dX4_pullNow_9 : decode cX4_pullNow 9 = .ok (.aload_n 0, 1) := by decide +kernel
theorem dX4_pullNow_10 : decode cX4_pullNow 10 = .ok (.getfield 38, 3) := by decide +kernel
theorem dX4_pullNow_13 : decode cX4_pullNow 13 = .ok (.aload_n 0, 1) := by decide +kernel
theorem dX4_pullNow_14 : decode cX4_pullNow 14 = .ok (.getfield 32, 3) := by decide +kernel
theorem dX4_pullNow_17 : decode cX4_pullNow 17 = .ok (.aload_n 0, 1) := by decide +kernel
theorem dX4_pullNow_18 : decode cX4_pullNow 18 = .ok (.invokevirtual 71, 3) := by decide +kernel
theorem dX4_pullNow_21 : decode cX4_pullNow 21 = .ok (.invokestatic 75, 3) := by decide +kernel
theorem dX4_pullNow_24 : decode cX4_pullNow 24 = .ok (.ireturn, 1) := by decide +kernel
theorem dX4_nextBy_0 : decode cX4_nextBy 0 = .ok (.iload_n 1, 1) := by decide +kernel
theorem dX4_nextBy_1 : decode cX4_nextBy 1 = .ok (.aload_n 0, 1) := by decide +kernel
theorem dX4_nextBy_2 : decode cX4_nextBy 2 = .ok (.invokevirtual 79, 3) := by decide +kernel
theorem dX4_nextBy_5 : decode cX4_nextBy 5 = .ok (.aload_n 0, 1) := by decide +kernel
theorem dX4_nextBy_6 : decode cX4_nextBy 6 = .ok (.getfield 31, 3) := by decide +kernel
theorem dX4_nextBy_9 : decode cX4_nextBy 9 = .ok (.aload_n 0, 1) := by decide +kernel
theorem dX4_nextBy_10 : decode cX4_nextBy 10 = .ok (.getfield 38, 3) := by decide +kernel
theorem dX4_nextBy_13 : decode cX4_nextBy 13 = .ok (.aload_n 0, 1) := by decide +kernel
theorem dX4_nextBy_14 : decode cX4_nextBy 14 = .ok (.getfield 32, 3) := by decide +kernel
theorem dX4_nextBy_17 : decode cX4_nextBy 17 = .ok (.aload_n 0, 1) := by decide +kernel
theorem dX4_nextBy_18 : decode cX4_nextBy 18 = .ok (.invokevirtual 71, 3) := by decide +kernel
theorem dX4_nextBy_21 : decode cX4_nextBy 21 = .ok (.invokestatic 83, 3) := by decide +kernel
theorem dX4_nextBy_24 : decode cX4_nextBy 24 = .ok (.istore_n 2, 1) := by decide +kernel
theorem dX4_nextBy_25 : decode cX4_nextBy 25 = .ok (.iload_n 2, 1) := by decide +kernel
theorem dX4_nextBy_26 : decode cX4_nextBy 26 = .ok (.iconst (-1), 1) := by decide +kernel
theorem dX4_nextBy_27 : decode cX4_nextBy 27 = .ok (.if_icmp .ne 10, 3) := by decide +kernel
theorem dX4_nextBy_30 : decode cX4_nextBy 30 = .ok (.aload_n 0, 1) := by decide +kernel
theorem dX4_nextBy_31 : decode cX4_nextBy 31 = .ok (.getfield 22, 3) := by decide +kernel
theorem dX4_nextBy_34 : decode cX4_nextBy 34 = .ok (.goto 4, 3) := by decide +kernel
theorem dX4_nextBy_37 : decode cX4_nextBy 37 = .ok (.iload_n 2, 1) := by decide +kernel
theorem dX4_nextBy_38 : decode cX4_nextBy 38 = .ok (.ireturn, 1) := by decide +kernel
theorem dX4_feelGoverned_0 : decode cX4_feelGoverned 0 = .ok (.aload_n 0, 1) := by decide +kernel
theorem dX4_feelGoverned_1 : decode cX4_feelGoverned 1 = .ok (.getfield 32, 3) := by decide +kernel
theorem dX4_feelGoverned_4 : decode cX4_feelGoverned 4 = .ok (.aload_n 0, 1) := by decide +kernel
theorem dX4_feelGoverned_5 : decode cX4_feelGoverned 5 = .ok (.getfield 22, 3) := by decide +kernel
theorem dX4_feelGoverned_8 : decode cX4_feelGoverned 8 = .ok (.invokestatic 86, 3) := by decide +kernel
theorem dX4_feelGoverned_11 : decode cX4_feelGoverned 11 = .ok (.istore_n 1, 1) := by decide +kernel
theorem dX4_feelGoverned_12 : decode cX4_feelGoverned 12 = .ok (.iload_n 1, 1) := by decide +kernel
theorem dX4_feelGoverned_13 : decode cX4_feelGoverned 13 = .ok (.bipush 9, 2) := by decide +kernel
theorem dX4_feelGoverned_15 : decode cX4_feelGoverned 15 = .ok (.if_icmp .ge 21, 3) := by decide +kernel
theorem dX4_feelGoverned_18 : decode cX4_feelGoverned 18 = .ok (.aload_n 0, 1) := by decide +kernel
theorem dX4_feelGoverned_19 : decode cX4_feelGoverned 19 = .ok (.aload_n 0, 1) := by decide +kernel
theorem dX4_feelGoverned_20 : decode cX4_feelGoverned 20 = .ok (.getfield 32, 3) := by decide +kernel
theorem dX4_feelGoverned_23 : decode cX4_feelGoverned 23 = .ok (.aload_n 0, 1) := by decide +kernel
theorem dX4_feelGoverned_24 : decode cX4_feelGoverned 24 = .ok (.getfield 22, 3) := by decide +kernel
theorem dX4_feelGoverned_27 : decode cX4_feelGoverned 27 = .ok (.iload_n 1, 1) := by decide +kernel
theorem dX4_feelGoverned_28 : decode cX4_feelGoverned 28 = .ok (.iconst 1, 1) := by decide +kernel
theorem dX4_feelGoverned_29 : decode cX4_feelGoverned 29 = .ok (.iadd, 1) := by decide +kernel
theorem dX4_feelGoverned_30 : decode cX4_feelGoverned 30 = .ok (.invokestatic 90, 3) := by decide +kernel
theorem dX4_feelGoverned_33 : decode cX4_feelGoverned 33 = .ok (.putfield 32, 3) := by decide +kernel
theorem dX4_feelGoverned_36 : decode cX4_feelGoverned 36 = .ok (.return_, 1) := by decide +kernel
theorem dX4_stepTo_0 : decode cX4_stepTo 0 = .ok (.iload_n 1, 1) := by decide +kernel
theorem dX4_stepTo_1 : decode cX4_stepTo 1 = .ok (.aload_n 0, 1) := by decide +kernel
theorem dX4_stepTo_2 : decode cX4_stepTo 2 = .ok (.getfield 22, 3) := by decide +kernel
theorem dX4_stepTo_5 : decode cX4_stepTo 5 = .ok (.if_icmp .eq 24, 3) := by decide +kernel
theorem dX4_stepTo_8 : decode cX4_stepTo 8 = .ok (.aload_n 0, 1) := by decide +kernel
theorem dX4_stepTo_9 : decode cX4_stepTo 9 = .ok (.iload_n 1, 1) := by decide +kernel
theorem dX4_stepTo_10 : decode cX4_stepTo 10 = .ok (.putfield 22, 3) := by decide +kernel
theorem dX4_stepTo_13 : decode cX4_stepTo 13 = .ok (.aload_n 0, 1) := by decide +kernel
theorem dX4_stepTo_14 : decode cX4_stepTo 14 = .ok (.sipush 999, 3) := by decide +kernel
theorem dX4_stepTo_17 : decode cX4_stepTo 17 = .ok (.aload_n 0, 1) := by decide +kernel
theorem dX4_stepTo_18 : decode cX4_stepTo 18 = .ok (.getfield 25, 3) := by decide +kernel
theorem dX4_stepTo_21 : decode cX4_stepTo 21 = .ok (.iconst 1, 1) := by decide +kernel
theorem dX4_stepTo_22 : decode cX4_stepTo 22 = .ok (.iadd, 1) := by decide +kernel
theorem dX4_stepTo_23 : decode cX4_stepTo 23 = .ok (.invokestatic 94, 3) := by decide +kernel
theorem dX4_stepTo_26 : decode cX4_stepTo 26 = .ok (.putfield 25, 3) := by decide +kernel
theorem dX4_stepTo_29 : decode cX4_stepTo 29 = .ok (.return_, 1) := by decide +kernel
theorem dX4_tryHour_0 : decode cX4_tryHour 0 = .ok (.aload_n 0, 1) := by decide +kernel
theorem dX4_tryHour_1 : decode cX4_tryHour 1 = .ok (.invokevirtual 99, 3) := by decide +kernel
theorem dX4_tryHour_4 : decode cX4_tryHour 4 = .ok (.aload_n 0, 1) := by decide +kernel
theorem dX4_tryHour_5 : decode cX4_tryHour 5 = .ok (.aload_n 0, 1) := by decide +kernel
theorem dX4_tryHour_6 : decode cX4_tryHour 6 = .ok (.aload_n 0, 1) := by decide +kernel
theorem dX4_tryHour_7 : decode cX4_tryHour 7 = .ok (.getfield 21, 3) := by decide +kernel
theorem dX4_tryHour_10 : decode cX4_tryHour 10 = .ok (.invokevirtual 102, 3) := by decide +kernel
theorem dX4_tryHour_13 : decode cX4_tryHour 13 = .ok (.invokevirtual 106, 3) := by decide +kernel
theorem dX4_tryHour_16 : decode cX4_tryHour 16 = .ok (.return_, 1) := by decide +kernel
theorem dX4_pullOf_0 : decode cX4_pullOf 0 = .ok (.iload_n 0, 1) := by decide +kernel
theorem dX4_pullOf_1 : decode cX4_pullOf 1 = .ok (.invokestatic 110, 3) := by decide +kernel
theorem dX4_pullOf_4 : decode cX4_pullOf 4 = .ok (.iload_n 2, 1) := by decide +kernel
theorem dX4_pullOf_5 : decode cX4_pullOf 5 = .ok (.iload_n 1, 1) := by decide +kernel
theorem dX4_pullOf_6 : decode cX4_pullOf 6 = .ok (.invokestatic 86, 3) := by decide +kernel
theorem dX4_pullOf_9 : decode cX4_pullOf 9 = .ok (.imul, 1) := by decide +kernel
theorem dX4_pullOf_10 : decode cX4_pullOf 10 = .ok (.istore 6, 2) := by decide +kernel
theorem dX4_pullOf_12 : decode cX4_pullOf 12 = .ok (.iload_n 3, 1) := by decide +kernel
theorem dX4_pullOf_13 : decode cX4_pullOf 13 = .ok (.iload_n 1, 1) := by decide +kernel
theorem dX4_pullOf_14 : decode cX4_pullOf 14 = .ok (.invokestatic 113, 3) := by decide +kernel
theorem dX4_pullOf_17 : decode cX4_pullOf 17 = .ok (.iconst 1, 1) := by decide +kernel
theorem dX4_pullOf_18 : decode cX4_pullOf 18 = .ok (.if_icmp .ne 7, 3) := by decide +kernel
theorem dX4_pullOf_21 : decode cX4_pullOf 21 = .ok (.iconst 0, 1) := by decide +kernel
theorem dX4_pullOf_22 : decode cX4_pullOf 22 = .ok (.goto 9, 3) := by decide +kernel
theorem dX4_pullOf_25 : decode cX4_pullOf 25 = .ok (.iload_n 0, 1) := by decide +kernel
theorem dX4_pullOf_26 : decode cX4_pullOf 26 = .ok (.invokestatic 116, 3) := by decide +kernel
theorem dX4_pullOf_29 : decode cX4_pullOf 29 = .ok (.iconst 3, 1) := by decide +kernel
theorem dX4_pullOf_30 : decode cX4_pullOf 30 = .ok (.imul, 1) := by decide +kernel
theorem dX4_pullOf_31 : decode cX4_pullOf 31 = .ok (.istore 7, 2) := by decide +kernel
theorem dX4_pullOf_33 : decode cX4_pullOf 33 = .ok (.iload_n 0, 1) := by decide +kernel
theorem dX4_pullOf_34 : decode cX4_pullOf 34 = .ok (.invokestatic 119, 3) := by decide +kernel
theorem dX4_pullOf_37 : decode cX4_pullOf 37 = .ok (.iload 4, 2) := by decide +kernel
theorem dX4_pullOf_39 : decode cX4_pullOf 39 = .ok (.iload_n 1, 1) := by decide +kernel
theorem dX4_pullOf_40 : decode cX4_pullOf 40 = .ok (.invokestatic 86, 3) := by decide +kernel
theorem dX4_pullOf_43 : decode cX4_pullOf 43 = .ok (.imul, 1) := by decide +kernel
theorem dX4_pullOf_44 : decode cX4_pullOf 44 = .ok (.istore 8, 2) := by decide +kernel
theorem dX4_pullOf_46 : decode cX4_pullOf 46 = .ok (.iload 5, 2) := by decide +kernel
theorem dX4_pullOf_48 : decode cX4_pullOf 48 = .ok (.ifCond .eq 10, 3) := by decide +kernel
theorem dX4_pullOf_51 : decode cX4_pullOf 51 = .ok (.iload 6, 2) := by decide +kernel
theorem dX4_pullOf_53 : decode cX4_pullOf 53 = .ok (.iconst 2, 1) := by decide +kernel
theorem dX4_pullOf_54 : decode cX4_pullOf 54 = .ok (.imul, 1) := by decide +kernel
theorem dX4_pullOf_55 : decode cX4_pullOf 55 = .ok (.goto 5, 3) := by decide +kernel
theorem dX4_pullOf_58 : decode cX4_pullOf 58 = .ok (.iload 6, 2) := by decide +kernel
theorem dX4_pullOf_60 : decode cX4_pullOf 60 = .ok (.iload 7, 2) := by decide +kernel
theorem dX4_pullOf_62 : decode cX4_pullOf 62 = .ok (.iadd, 1) := by decide +kernel
theorem dX4_pullOf_63 : decode cX4_pullOf 63 = .ok (.iload 8, 2) := by decide +kernel
theorem dX4_pullOf_65 : decode cX4_pullOf 65 = .ok (.iadd, 1) := by decide +kernel
theorem dX4_pullOf_66 : decode cX4_pullOf 66 = .ok (.ireturn, 1) := by decide +kernel
theorem dX4_liked_0 : decode cX4_liked 0 = .ok (.iconst (-1), 1) := by decide +kernel
theorem dX4_liked_1 : decode cX4_liked 1 = .ok (.istore 6, 2) := by decide +kernel
theorem dX4_liked_3 : decode cX4_liked 3 = .ok (.iconst 0, 1) := by decide +kernel
theorem dX4_liked_4 : decode cX4_liked 4 = .ok (.istore 7, 2) := by decide +kernel
theorem dX4_liked_6 : decode cX4_liked 6 = .ok (.iconst 0, 1) := by decide +kernel
theorem dX4_liked_7 : decode cX4_liked 7 = .ok (.istore 8, 2) := by decide +kernel
theorem dX4_liked_9 : decode cX4_liked 9 = .ok (.iload 8, 2) := by decide +kernel
theorem dX4_liked_11 : decode cX4_liked 11 = .ok (.bipush 8, 2) := by decide +kernel
theorem dX4_liked_13 : decode cX4_liked 13 = .ok (.if_icmp .ge 54, 3) := by decide +kernel
theorem dX4_liked_16 : decode cX4_liked 16 = .ok (.iload_n 1, 1) := by decide +kernel
theorem dX4_liked_17 : decode cX4_liked 17 = .ok (.iload 8, 2) := by decide +kernel
theorem dX4_liked_19 : decode cX4_liked 19 = .ok (.invokestatic 113, 3) := by decide +kernel
theorem dX4_liked_22 : decode cX4_liked 22 = .ok (.iconst 1, 1) := by decide +kernel
theorem dX4_liked_23 : decode cX4_liked 23 = .ok (.if_icmp .ne 38, 3) := by decide +kernel
theorem dX4_liked_26 : decode cX4_liked 26 = .ok (.iload_n 0, 1) := by decide +kernel
theorem dX4_liked_27 : decode cX4_liked 27 = .ok (.iload 8, 2) := by decide +kernel
theorem dX4_liked_29 : decode cX4_liked 29 = .ok (.iload_n 2, 1) := by decide +kernel
theorem dX4_liked_30 : decode cX4_liked 30 = .ok (.iload_n 3, 1) := by decide +kernel
theorem dX4_liked_31 : decode cX4_liked 31 = .ok (.iload 4, 2) := by decide +kernel
theorem dX4_liked_33 : decode cX4_liked 33 = .ok (.iload 5, 2) := by decide +kernel
theorem dX4_liked_35 : decode cX4_liked 35 = .ok (.invokestatic 75, 3) := by decide +kernel
theorem dX4_liked_38 : decode cX4_liked 38 = .ok (.istore 9, 2) := by decide +kernel
theorem dX4_liked_40 : decode cX4_liked 40 = .ok (.iload 6, 2) := by decide +kernel
theorem dX4_liked_42 : decode cX4_liked 42 = .ok (.iconst (-1), 1) := by decide +kernel
theorem dX4_liked_43 : decode cX4_liked 43 = .ok (.if_icmp .eq 10, 3) := by decide +kernel
theorem dX4_liked_46 : decode cX4_liked 46 = .ok (.iload 9, 2) := by decide +kernel
theorem dX4_liked_48 : decode cX4_liked 48 = .ok (.iload 7, 2) := by decide +kernel
theorem dX4_liked_50 : decode cX4_liked 50 = .ok (.if_icmp .ge 11, 3) := by decide +kernel
theorem dX4_liked_53 : decode cX4_liked 53 = .ok (.iload 8, 2) := by decide +kernel
theorem dX4_liked_55 : decode cX4_liked 55 = .ok (.istore 6, 2) := by decide +kernel
theorem dX4_liked_57 : decode cX4_liked 57 = .ok (.iload 9, 2) := by decide +kernel
theorem dX4_liked_59 : decode cX4_liked 59 = .ok (.istore 7, 2) := by decide +kernel
theorem dX4_liked_61 : decode cX4_liked 61 = .ok (.iinc 8 1, 3) := by decide +kernel
theorem dX4_liked_64 : decode cX4_liked 64 = .ok (.goto (-55), 3) := by decide +kernel
theorem dX4_liked_67 : decode cX4_liked 67 = .ok (.iload 6, 2) := by decide +kernel
theorem dX4_liked_69 : decode cX4_liked 69 = .ok (.ireturn, 1) := by decide +kernel
theorem dX5_init_0 : decode cX5_init 0 = .ok (.aload_n 0, 1) := by decide +kernel
theorem dX5_init_1 : decode cX5_init 1 = .ok (.invokespecial 3, 3) := by decide +kernel
theorem dX5_init_4 : decode cX5_init 4 = .ok (.aload_n 0, 1) := by decide +kernel
theorem dX5_init_5 : decode cX5_init 5 = .ok (.new 9, 3) := by decide +kernel
theorem dX5_init_8 : decode cX5_init 8 = .ok (.dup, 1) := by decide +kernel
theorem dX5_init_9 : decode cX5_init 9 = .ok (.invokespecial 11, 3) := by decide +kernel
theorem dX5_init_12 : decode cX5_init 12 = .ok (.putfield 12, 3) := by decide +kernel
theorem dX5_init_15 : decode cX5_init 15 = .ok (.aload_n 0, 1) := by decide +kernel
theorem dX5_init_16 : decode cX5_init 16 = .ok (.new 18, 3) := by decide +kernel
theorem dX5_init_19 : decode cX5_init 19 = .ok (.dup, 1) := by decide +kernel
theorem dX5_init_20 : decode cX5_init 20 = .ok (.invokespecial 20, 3) := by decide +kernel
theorem dX5_init_23 : decode cX5_init 23 = .ok (.putfield 21, 3) := by decide +kernel
theorem dX5_init_26 : decode cX5_init 26 = .ok (.aload_n 0, 1) := by decide +kernel
theorem dX5_init_27 : decode cX5_init 27 = .ok (.bipush 8, 2) := by decide +kernel
theorem dX5_init_29 : decode cX5_init 29 = .ok (.newarray .int, 2) := by decide +kernel
theorem dX5_init_31 : decode cX5_init 31 = .ok (.putfield 25, 3) := by decide +kernel
theorem dX5_init_34 : decode cX5_init 34 = .ok (.aload_n 0, 1) := by decide +kernel
theorem dX5_init_35 : decode cX5_init 35 = .ok (.bipush 6, 2) := by decide +kernel
theorem dX5_init_37 : decode cX5_init 37 = .ok (.newarray .int, 2) := by decide +kernel
theorem dX5_init_39 : decode cX5_init 39 = .ok (.putfield 29, 3) := by decide +kernel
theorem dX5_init_42 : decode cX5_init 42 = .ok (.return_, 1) := by decide +kernel
theorem dX5_begin_0 : decode cX5_begin 0 = .ok (.aload_n 0, 1) := by decide +kernel
theorem dX5_begin_1 : decode cX5_begin 1 = .ok (.getfield 12, 3) := by decide +kernel
theorem dX5_begin_4 : decode cX5_begin 4 = .ok (.aload_n 1, 1) := by decide +kernel
theorem dX5_begin_5 : decode cX5_begin 5 = .ok (.invokevirtual 32, 3) := by decide +kernel
theorem dX5_begin_8 : decode cX5_begin 8 = .ok (.aload_n 0, 1) := by decide +kernel
theorem dX5_begin_9 : decode cX5_begin 9 = .ok (.getfield 21, 3) := by decide +kernel
theorem dX5_begin_12 : decode cX5_begin 12 = .ok (.invokevirtual 36, 3) := by decide +kernel
theorem dX5_begin_15 : decode cX5_begin 15 = .ok (.aload_n 0, 1) := by decide +kernel
theorem dX5_begin_16 : decode cX5_begin 16 = .ok (.iconst 0, 1) := by decide +kernel
theorem dX5_begin_17 : decode cX5_begin 17 = .ok (.putfield 39, 3) := by decide +kernel
theorem dX5_begin_20 : decode cX5_begin 20 = .ok (.aload_n 0, 1) := by decide +kernel
theorem dX5_begin_21 : decode cX5_begin 21 = .ok (.iconst 0, 1) := by decide +kernel
theorem dX5_begin_22 : decode cX5_begin 22 = .ok (.putfield 43, 3) := by decide +kernel
theorem dX5_begin_25 : decode cX5_begin 25 = .ok (.aload_n 0, 1) := by decide +kernel
theorem dX5_begin_26 : decode cX5_begin 26 = .ok (.iconst 0, 1) := by decide +kernel
theorem dX5_begin_27 : decode cX5_begin 27 = .ok (.putfield 46, 3) := by decide +kernel
theorem dX5_begin_30 : decode cX5_begin 30 = .ok (.aload_n 0, 1) := by decide +kernel
theorem dX5_begin_31 : decode cX5_begin 31 = .ok (.iconst 0, 1) := by decide +kernel
theorem dX5_begin_32 : decode cX5_begin 32 = .ok (.putfield 49, 3) := by decide +kernel
theorem dX5_begin_35 : decode cX5_begin 35 = .ok (.aload_n 0, 1) := by decide +kernel
theorem dX5_begin_36 : decode cX5_begin 36 = .ok (.getfield 25, 3) := by decide +kernel
theorem dX5_begin_39 : decode cX5_begin 39 = .ok (.iconst 0, 1) := by decide +kernel
theorem dX5_begin_40 : decode cX5_begin 40 = .ok (.invokestatic 52, 3) := by decide +kernel
theorem dX5_begin_43 : decode cX5_begin 43 = .ok (.aload_n 1, 1) := by decide +kernel
theorem dX5_begin_44 : decode cX5_begin 44 = .ok (.getfield 58, 3) := by decide +kernel
theorem dX5_begin_47 : decode cX5_begin 47 = .ok (.iconst 0, 1) := by decide +kernel
theorem dX5_begin_48 : decode cX5_begin 48 = .ok (.aload_n 0, 1) := by decide +kernel
theorem dX5_begin_49 : decode cX5_begin 49 = .ok (.getfield 29, 3) := by decide +kernel
theorem dX5_begin_52 : decode cX5_begin 52 = .ok (.iconst 0, 1) := by decide +kernel
theorem dX5_begin_53 : decode cX5_begin 53 = .ok (.bipush 6, 2) := by decide +kernel
theorem dX5_begin_55 : decode cX5_begin 55 = .ok (.invokestatic 63, 3) := by decide +kernel
theorem dX5_begin_58 : decode cX5_begin 58 = .ok (.return_, 1) := by decide +kernel
theorem dX5_copyFrom_0 : decode cX5_copyFrom 0 = .ok (.aload_n 0, 1) := by decide +kernel
theorem dX5_copyFrom_1 : decode cX5_copyFrom 1 = .ok (.getfield 12, 3) := by decide +kernel
theorem dX5_copyFrom_4 : decode cX5_copyFrom 4 = .ok (.aload_n 1, 1) := by decide +kernel
theorem dX5_copyFrom_5 : decode cX5_copyFrom 5 = .ok (.getfield 12, 3) := by decide +kernel
theorem dX5_copyFrom_8 : decode cX5_copyFrom 8 = .ok (.invokevirtual 69, 3) := by decide +kernel
theorem dX5_copyFrom_11 : decode cX5_copyFrom 11 = .ok (.aload_n 0, 1) := by decide +kernel
theorem dX5_copyFrom_12 : decode cX5_copyFrom 12 = .ok (.getfield 21, 3) := by decide +kernel
theorem dX5_copyFrom_15 : decode cX5_copyFrom 15 = .ok (.aload_n 1, 1) := by decide +kernel
theorem dX5_copyFrom_16 : decode cX5_copyFrom 16 = .ok (.getfield 21, 3) := by decide +kernel
theorem dX5_copyFrom_19 : decode cX5_copyFrom 19 = .ok (.invokevirtual 73, 3) := by decide +kernel
theorem dX5_copyFrom_22 : decode cX5_copyFrom 22 = .ok (.aload_n 0, 1) := by decide +kernel
theorem dX5_copyFrom_23 : decode cX5_copyFrom 23 = .ok (.aload_n 1, 1) := by decide +kernel
theorem dX5_copyFrom_24 : decode cX5_copyFrom 24 = .ok (.getfield 39, 3) := by decide +kernel
theorem dX5_copyFrom_27 : decode cX5_copyFrom 27 = .ok (.putfield 39, 3) := by decide +kernel
theorem dX5_copyFrom_30 : decode cX5_copyFrom 30 = .ok (.aload_n 0, 1) := by decide +kernel
theorem dX5_copyFrom_31 : decode cX5_copyFrom 31 = .ok (.aload_n 1, 1) := by decide +kernel
theorem dX5_copyFrom_32 : decode cX5_copyFrom 32 = .ok (.getfield 43, 3) := by decide +kernel
theorem dX5_copyFrom_35 : decode cX5_copyFrom 35 = .ok (.putfield 43, 3) := by decide +kernel
theorem dX5_copyFrom_38 : decode cX5_copyFrom 38 = .ok (.aload_n 0, 1) := by decide +kernel
theorem dX5_copyFrom_39 : decode cX5_copyFrom 39 = .ok (.aload_n 1, 1) := by decide +kernel
theorem dX5_copyFrom_40 : decode cX5_copyFrom 40 = .ok (.getfield 46, 3) := by decide +kernel
theorem dX5_copyFrom_43 : decode cX5_copyFrom 43 = .ok (.putfield 46, 3) := by decide +kernel
theorem dX5_copyFrom_46 : decode cX5_copyFrom 46 = .ok (.aload_n 0, 1) := by decide +kernel
theorem dX5_copyFrom_47 : decode cX5_copyFrom 47 = .ok (.aload_n 1, 1) := by decide +kernel
theorem dX5_copyFrom_48 : decode cX5_copyFrom 48 = .ok (.getfield 49, 3) := by decide +kernel
theorem dX5_copyFrom_51 : decode cX5_copyFrom 51 = .ok (.putfield 49, 3) := by decide +kernel
theorem dX5_copyFrom_54 : decode cX5_copyFrom 54 = .ok (.aload_n 1, 1) := by decide +kernel
theorem dX5_copyFrom_55 : decode cX5_copyFrom 55 = .ok (.getfield 25, 3) := by decide +kernel
theorem dX5_copyFrom_58 : decode cX5_copyFrom 58 = .ok (.iconst 0, 1) := by decide +kernel
theorem dX5_copyFrom_59 : decode cX5_copyFrom 59 = .ok (.aload_n 0, 1) := by decide +kernel
theorem dX5_copyFrom_60 : decode cX5_copyFrom 60 = .ok (.getfield 25, 3) := by decide +kernel
theorem dX5_copyFrom_63 : decode cX5_copyFrom 63 = .ok (.iconst 0, 1) := by decide +kernel
theorem dX5_copyFrom_64 : decode cX5_copyFrom 64 = .ok (.bipush 8, 2) := by decide +kernel
theorem dX5_copyFrom_66 : decode cX5_copyFrom 66 = .ok (.invokestatic 63, 3) := by decide +kernel
theorem dX5_copyFrom_69 : decode cX5_copyFrom 69 = .ok (.aload_n 1, 1) := by decide +kernel
theorem dX5_copyFrom_70 : decode cX5_copyFrom 70 = .ok (.getfield 29, 3) := by decide +kernel
theorem dX5_copyFrom_73 : decode cX5_copyFrom 73 = .ok (.iconst 0, 1) := by decide +kernel
theorem dX5_copyFrom_74 : decode cX5_copyFrom 74 = .ok (.aload_n 0, 1) := by decide +kernel
theorem dX5_copyFrom_75 : decode cX5_copyFrom 75 = .ok (.getfield 29, 3) := by decide +kernel
theorem dX5_copyFrom_78 : decode cX5_copyFrom 78 = .ok (.iconst 0, 1) := by decide +kernel
theorem dX5_copyFrom_79 : decode cX5_copyFrom 79 = .ok (.bipush 6, 2) := by decide +kernel
theorem dX5_copyFrom_81 : decode cX5_copyFrom 81 = .ok (.invokestatic 63, 3) := by decide +kernel
theorem dX5_copyFrom_84 : decode cX5_copyFrom 84 = .ok (.return_, 1) := by decide +kernel
theorem dX5_passHour_0 : decode cX5_passHour 0 = .ok (.aload_n 0, 1) := by decide +kernel
theorem dX5_passHour_1 : decode cX5_passHour 1 = .ok (.getfield 25, 3) := by decide +kernel
theorem dX5_passHour_4 : decode cX5_passHour 4 = .ok (.aload_n 0, 1) := by decide +kernel
theorem dX5_passHour_5 : decode cX5_passHour 5 = .ok (.getfield 12, 3) := by decide +kernel
theorem dX5_passHour_8 : decode cX5_passHour 8 = .ok (.getfield 76, 3) := by decide +kernel
theorem dX5_passHour_11 : decode cX5_passHour 11 = .ok (.dup2, 1) := by decide +kernel
theorem dX5_passHour_12 : decode cX5_passHour 12 = .ok (.iaload, 1) := by decide +kernel
theorem dX5_passHour_13 : decode cX5_passHour 13 = .ok (.iconst 1, 1) := by decide +kernel
theorem dX5_passHour_14 : decode cX5_passHour 14 = .ok (.iadd, 1) := by decide +kernel
theorem dX5_passHour_15 : decode cX5_passHour 15 = .ok (.iastore, 1) := by decide +kernel
theorem dX5_passHour_16 : decode cX5_passHour 16 = .ok (.aload_n 0, 1) := by decide +kernel
theorem dX5_passHour_17 : decode cX5_passHour 17 = .ok (.getfield 12, 3) := by decide +kernel
theorem dX5_passHour_20 : decode cX5_passHour 20 = .ok (.invokevirtual 79, 3) := by decide +kernel
theorem dX5_passHour_23 : decode cX5_passHour 23 = .ok (.aload_n 0, 1) := by decide +kernel
theorem dX5_passHour_24 : decode cX5_passHour 24 = .ok (.aload_n 1, 1) := by decide +kernel
theorem dX5_passHour_25 : decode cX5_passHour 25 = .ok (.invokevirtual 82, 3) := by decide +kernel
theorem dX5_passHour_28 : decode cX5_passHour 28 = .ok (.aload_n 0, 1) := by decide +kernel
theorem dX5_passHour_29 : decode cX5_passHour 29 = .ok (.getfield 12, 3) := by decide +kernel
theorem dX5_passHour_32 : decode cX5_passHour 32 = .ok (.aload_n 0, 1) := by decide +kernel
theorem dX5_passHour_33 : decode cX5_passHour 33 = .ok (.getfield 12, 3) := by decide +kernel
theorem dX5_passHour_36 : decode cX5_passHour 36 = .ok (.getfield 85, 3) := by decide +kernel
theorem dX5_passHour_39 : decode cX5_passHour 39 = .ok (.invokevirtual 88, 3) := by decide +kernel
theorem dX5_passHour_42 : decode cX5_passHour 42 = .ok (.istore_n 2, 1) := by decide +kernel
theorem dX5_passHour_43 : decode cX5_passHour 43 = .ok (.iload_n 2, 1) := by decide +kernel
theorem dX5_passHour_44 : decode cX5_passHour 44 = .ok (.aload_n 0, 1) := by decide +kernel
theorem dX5_passHour_45 : decode cX5_passHour 45 = .ok (.getfield 12, 3) := by decide +kernel
theorem dX5_passHour_48 : decode cX5_passHour 48 = .ok (.getfield 76, 3) := by decide +kernel
theorem dX5_passHour_51 : decode cX5_passHour 51 = .ok (.if_icmp .eq 23, 3) := by decide +kernel
theorem dX5_passHour_54 : decode cX5_passHour 54 = .ok (.aload_n 0, 1) := by decide +kernel
theorem dX5_passHour_55 : decode cX5_passHour 55 = .ok (.getfield 21, 3) := by decide +kernel
theorem dX5_passHour_58 : decode cX5_passHour 58 = .ok (.aload_n 0, 1) := by decide +kernel
theorem dX5_passHour_59 : decode cX5_passHour 59 = .ok (.getfield 12, 3) := by decide +kernel
theorem dX5_passHour_62 : decode cX5_passHour 62 = .ok (.iload_n 2, 1) := by decide +kernel
theorem dX5_passHour_63 : decode cX5_passHour 63 = .ok (.invokevirtual 92, 3) := by decide +kernel
theorem dX5_passHour_66 : decode cX5_passHour 66 = .ok (.aload_n 0, 1) := by decide +kernel
theorem dX5_passHour_67 : decode cX5_passHour 67 = .ok (.getfield 12, 3) := by decide +kernel
theorem dX5_passHour_70 : decode cX5_passHour 70 = .ok (.iload_n 2, 1) := by decide +kernel
theorem dX5_passHour_71 : decode cX5_passHour 71 = .ok (.invokevirtual 96, 3) := by decide +kernel
theorem dX5_passHour_74 : decode cX5_passHour 74 = .ok (.aload_n 0, 1) := by decide +kernel
theorem dX5_passHour_75 : decode cX5_passHour 75 = .ok (.dup, 1) := by decide +kernel
theorem dX5_passHour_76 : decode cX5_passHour 76 = .ok (.getfield 39, 3) := by decide +kernel
theorem dX5_passHour_79 : decode cX5_passHour 79 = .ok (.iconst 1, 1) := by decide +kernel
theorem dX5_passHour_80 : decode cX5_passHour 80 = .ok (.iadd, 1) := by decide +kernel
theorem dX5_passHour_81 : decode cX5_passHour 81 = .ok (.putfield 39, 3) := by decide +kernel
theorem dX5_passHour_84 : decode cX5_passHour 84 = .ok (.return_, 1) := by decide +kernel
theorem dX5_hearAll_0 : decode cX5_hearAll 0 = .ok (.iconst 0, 1) := by decide +kernel
theorem dX5_hearAll_1 : decode cX5_hearAll 1 = .ok (.istore_n 2, 1) := by decide +kernel
theorem dX5_hearAll_2 : decode cX5_hearAll 2 = .ok (.iload_n 2, 1) := by decide +kernel
theorem dX5_hearAll_3 : decode cX5_hearAll 3 = .ok (.aload_n 1, 1) := by decide +kernel
theorem dX5_hearAll_4 : decode cX5_hearAll 4 = .ok (.getfield 100, 3) := by decide +kernel
theorem dX5_hearAll_7 : decode cX5_hearAll 7 = .ok (.if_icmp .ge 69, 3) := by decide +kernel
theorem dX5_hearAll_10 : decode cX5_hearAll 10 = .ok (.aload_n 0, 1) := by decide +kernel
theorem dX5_hearAll_11 : decode cX5_hearAll 11 = .ok (.getfield 29, 3) := by decide +kernel
theorem dX5_hearAll_14 : decode cX5_hearAll 14 = .ok (.iload_n 2, 1) := by decide +kernel
theorem dX5_hearAll_15 : decode cX5_hearAll 15 = .ok (.iaload, 1) := by decide +kernel
theorem dX5_hearAll_16 : decode cX5_hearAll 16 = .ok (.aload_n 0, 1) := by decide +kernel
theorem dX5_hearAll_17 : decode cX5_hearAll 17 = .ok (.getfield 12, 3) := by decide +kernel
theorem dX5_hearAll_20 : decode cX5_hearAll 20 = .ok (.getfield 76, 3) := by decide +kernel
theorem dX5_hearAll_23 : decode cX5_hearAll 23 = .ok (.if_icmp .ne 47, 3) := by decide +kernel
theorem dX5_hearAll_26 : decode cX5_hearAll 26 = .ok (.aload_n 0, 1) := by decide +kernel
theorem dX5_hearAll_27 : decode cX5_hearAll 27 = .ok (.getfield 46, 3) := by decide +kernel
theorem dX5_hearAll_30 : decode cX5_hearAll 30 = .ok (.iload_n 2, 1) := by decide +kernel
theorem dX5_hearAll_31 : decode cX5_hearAll 31 = .ok (.invokestatic 103, 3) := by decide +kernel
theorem dX5_hearAll_34 : decode cX5_hearAll 34 = .ok (.ifCond .ne 36, 3) := by decide +kernel
theorem dX5_hearAll_37 : decode cX5_hearAll 37 = .ok (.aload_n 0, 1) := by decide +kernel
theorem dX5_hearAll_38 : decode cX5_hearAll 38 = .ok (.aload_n 0, 1) := by decide +kernel
theorem dX5_hearAll_39 : decode cX5_hearAll 39 = .ok (.getfield 46, 3) := by decide +kernel
theorem dX5_hearAll_42 : decode cX5_hearAll 42 = .ok (.iload_n 2, 1) := by decide +kernel
theorem dX5_hearAll_43 : decode cX5_hearAll 43 = .ok (.iconst 1, 1) := by decide +kernel
theorem dX5_hearAll_44 : decode cX5_hearAll 44 = .ok (.invokestatic 107, 3) := by decide +kernel
theorem dX5_hearAll_47 : decode cX5_hearAll 47 = .ok (.putfield 46, 3) := by decide +kernel
theorem dX5_hearAll_50 : decode cX5_hearAll 50 = .ok (.aload_n 0, 1) := by decide +kernel
theorem dX5_hearAll_51 : decode cX5_hearAll 51 = .ok (.ldc 111, 2) := by decide +kernel
theorem dX5_hearAll_53 : decode cX5_hearAll 53 = .ok (.aload_n 0, 1) := by decide +kernel
theorem dX5_hearAll_54 : decode cX5_hearAll 54 = .ok (.getfield 49, 3) := by decide +kernel
theorem dX5_hearAll_57 : decode cX5_hearAll 57 = .ok (.aload_n 1, 1) := by decide +kernel
theorem dX5_hearAll_58 : decode cX5_hearAll 58 = .ok (.getfield 112, 3) := by decide +kernel
theorem dX5_hearAll_61 : decode cX5_hearAll 61 = .ok (.iload_n 2, 1) := by decide +kernel
theorem dX5_hearAll_62 : decode cX5_hearAll 62 = .ok (.iaload, 1) := by decide +kernel
theorem dX5_hearAll_63 : decode cX5_hearAll 63 = .ok (.iadd, 1) := by decide +kernel
theorem dX5_hearAll_64 : decode cX5_hearAll 64 = .ok (.invokestatic 115, 3) := by decide +kernel
theorem dX5_hearAll_67 : decode cX5_hearAll 67 = .ok (.putfield 49, 3) := by decide +kernel
theorem dX5_hearAll_70 : decode cX5_hearAll 70 = .ok (.iinc 2 1, 3) := by decide +kernel
theorem dX5_hearAll_73 : decode cX5_hearAll 73 = .ok (.goto (-71), 3) := by decide +kernel
theorem dX5_hearAll_76 : decode cX5_hearAll 76 = .ok (.return_, 1) := by decide +kernel
theorem dX6_init_0 : decode cX6_init 0 = .ok (.aload_n 0, 1) := by decide +kernel
theorem dX6_init_1 : decode cX6_init 1 = .ok (.invokespecial 3, 3) := by decide +kernel
theorem dX6_init_4 : decode cX6_init 4 = .ok (.aload_n 0, 1) := by decide +kernel
theorem dX6_init_5 : decode cX6_init 5 = .ok (.iconst (-1), 1) := by decide +kernel
theorem dX6_init_6 : decode cX6_init 6 = .ok (.putfield 9, 3) := by decide +kernel
theorem dX6_init_9 : decode cX6_init 9 = .ok (.aload_n 0, 1) := by decide +kernel
theorem dX6_init_10 : decode cX6_init 10 = .ok (.new 15, 3) := by decide +kernel
theorem dX6_init_13 : decode cX6_init 13 = .ok (.dup, 1) := by decide +kernel
theorem dX6_init_14 : decode cX6_init 14 = .ok (.invokespecial 17, 3) := by decide +kernel
theorem dX6_init_17 : decode cX6_init 17 = .ok (.putfield 18, 3) := by decide +kernel
theorem dX6_init_20 : decode cX6_init 20 = .ok (.aload_n 0, 1) := by decide +kernel
theorem dX6_init_21 : decode cX6_init 21 = .ok (.sipush 240, 3) := by decide +kernel
theorem dX6_init_24 : decode cX6_init 24 = .ok (.newarray .int, 2) := by decide +kernel
theorem dX6_init_26 : decode cX6_init 26 = .ok (.putfield 22, 3) := by decide +kernel
theorem dX6_init_29 : decode cX6_init 29 = .ok (.return_, 1) := by decide +kernel
theorem dX6_add_0 : decode cX6_add 0 = .ok (.aload_n 0, 1) := by decide +kernel
theorem dX6_add_1 : decode cX6_add 1 = .ok (.getfield 26, 3) := by decide +kernel
theorem dX6_add_4 : decode cX6_add 4 = .ok (.sipush 240, 3) := by decide +kernel
theorem dX6_add_7 : decode cX6_add 7 = .ok (.if_icmp .ge 23, 3) := by decide +kernel
theorem dX6_add_10 : decode cX6_add 10 = .ok (.aload_n 0, 1) := by decide +kernel
theorem dX6_add_11 : decode cX6_add 11 = .ok (.getfield 22, 3) := by decide +kernel
theorem dX6_add_14 : decode cX6_add 14 = .ok (.aload_n 0, 1) := by decide +kernel
theorem dX6_add_15 : decode cX6_add 15 = .ok (.getfield 26, 3) := by decide +kernel
theorem dX6_add_18 : decode cX6_add 18 = .ok (.iload_n 1, 1) := by decide +kernel
theorem dX6_add_19 : decode cX6_add 19 = .ok (.iastore, 1) := by decide +kernel
theorem dX6_add_20 : decode cX6_add 20 = .ok (.aload_n 0, 1) := by decide +kernel
theorem dX6_add_21 : decode cX6_add 21 = .ok (.dup, 1) := by decide +kernel
theorem dX6_add_22 : decode cX6_add 22 = .ok (.getfield 26, 3) := by decide +kernel
theorem dX6_add_25 : decode cX6_add 25 = .ok (.iconst 1, 1) := by decide +kernel
theorem dX6_add_26 : decode cX6_add 26 = .ok (.iadd, 1) := by decide +kernel
theorem dX6_add_27 : decode cX6_add 27 = .ok (.putfield 26, 3) := by decide +kernel
theorem dX6_add_30 : decode cX6_add 30 = .ok (.return_, 1) := by decide +kernel
theorem dX6_read_0 : decode cX6_read 0 = .ok (.aload_n 0, 1) := by decide +kernel
theorem dX6_read_1 : decode cX6_read 1 = .ok (.iconst 0, 1) := by decide +kernel
theorem dX6_read_2 : decode cX6_read 2 = .ok (.putfield 29, 3) := by decide +kernel
theorem dX6_read_5 : decode cX6_read 5 = .ok (.aload_n 0, 1) := by decide +kernel
theorem dX6_read_6 : decode cX6_read 6 = .ok (.iconst 0, 1) := by decide +kernel
theorem dX6_read_7 : decode cX6_read 7 = .ok (.putfield 32, 3) := by decide +kernel
theorem dX6_read_10 : decode cX6_read 10 = .ok (.aload_n 0, 1) := by decide +kernel
theorem dX6_read_11 : decode cX6_read 11 = .ok (.iconst (-1), 1) := by decide +kernel
theorem dX6_read_12 : decode cX6_read 12 = .ok (.putfield 9, 3) := by decide +kernel
theorem dX6_read_15 : decode cX6_read 15 = .ok (.aload_n 0, 1) := by decide +kernel
theorem dX6_read_16 : decode cX6_read 16 = .ok (.getfield 18, 3) := by decide +kernel
theorem dX6_read_19 : decode cX6_read 19 = .ok (.invokevirtual 35, 3) := by decide +kernel
theorem dX6_read_22 : decode cX6_read 22 = .ok (.aload_n 0, 1) := by decide +kernel
theorem dX6_read_23 : decode cX6_read 23 = .ok (.invokevirtual 38, 3) := by decide +kernel
theorem dX6_read_26 : decode cX6_read 26 = .ok (.iconst 0, 1) := by decide +kernel
theorem dX6_read_27 : decode cX6_read 27 = .ok (.istore_n 1, 1) := by decide +kernel
theorem dX6_read_28 : decode cX6_read 28 = .ok (.iload_n 1, 1) := by decide +kernel
theorem dX6_read_29 : decode cX6_read 29 = .ok (.sipush 240, 3) := by decide +kernel
theorem dX6_read_32 : decode cX6_read 32 = .ok (.if_icmp .ge 35, 3) := by decide +kernel
theorem dX6_read_35 : decode cX6_read 35 = .ok (.aload_n 0, 1) := by decide +kernel
theorem dX6_read_36 : decode cX6_read 36 = .ok (.getfield 29, 3) := by decide +kernel
theorem dX6_read_39 : decode cX6_read 39 = .ok (.aload_n 0, 1) := by decide +kernel
theorem dX6_read_40 : decode cX6_read 40 = .ok (.getfield 26, 3) := by decide +kernel
theorem dX6_read_43 : decode cX6_read 43 = .ok (.if_icmp .ge 24, 3) := by decide +kernel
theorem dX6_read_46 : decode cX6_read 46 = .ok (.aload_n 0, 1) := by decide +kernel
theorem dX6_read_47 : decode cX6_read 47 = .ok (.getfield 32, 3) := by decide +kernel
theorem dX6_read_50 : decode cX6_read 50 = .ok (.ifCond .ne 17, 3) := by decide +kernel
theorem dX6_read_53 : decode cX6_read 53 = .ok (.aload_n 0, 1) := by decide +kernel
theorem dX6_read_54 : decode cX6_read 54 = .ok (.invokevirtual 41, 3) := by decide +kernel
theorem dX6_read_57 : decode cX6_read 57 = .ok (.aload_n 0, 1) := by decide +kernel
theorem dX6_read_58 : decode cX6_read 58 = .ok (.invokevirtual 38, 3) := by decide +kernel
theorem dX6_read_61 : decode cX6_read 61 = .ok (.iinc 1 1, 3) := by decide +kernel
theorem dX6_read_64 : decode cX6_read 64 = .ok (.goto (-36), 3) := by decide +kernel
theorem dX6_read_67 : decode cX6_read 67 = .ok (.return_, 1) := by decide +kernel
theorem dX6_readClause_0 : decode cX6_readClause 0 = .ok (.aload_n 0, 1) := by decide +kernel
theorem dX6_readClause_1 : decode cX6_readClause 1 = .ok (.getfield 22, 3) := by decide +kernel
theorem dX6_readClause_4 : decode cX6_readClause 4 = .ok (.aload_n 0, 1) := by decide +kernel
theorem dX6_readClause_5 : decode cX6_readClause 5 = .ok (.getfield 29, 3) := by decide +kernel
theorem dX6_readClause_8 : decode cX6_readClause 8 = .ok (.iaload, 1) := by decide +kernel
theorem dX6_readClause_9 : decode cX6_readClause 9 = .ok (.istore_n 1, 1) := by decide +kernel
theorem dX6_readClause_10 : decode cX6_readClause 10 = .ok (.aload_n 0, 1) := by decide +kernel
theorem dX6_readClause_11 : decode cX6_readClause 11 = .ok (.getfield 18, 3) := by decide +kernel
theorem dX6_readClause_14 : decode cX6_readClause 14 = .ok (.getfield 44, 3) := by decide +kernel
theorem dX6_readClause_17 : decode cX6_readClause 17 = .ok (.ifCond .ne 19, 3) := by decide +kernel
theorem dX6_readClause_20 : decode cX6_readClause 20 = .ok (.iload_n 1, 1) := by decide +kernel
theorem dX6_readClause_21 : decode cX6_readClause 21 = .ok (.bipush 115, 2) := by decide +kernel
theorem dX6_readClause_23 : decode cX6_readClause 23 = .ok (.if_icmp .eq 13, 3) := by decide +kernel
theorem dX6_readClause_26 : decode cX6_readClause 26 = .ok (.aload_n 0, 1) := by decide +kernel
theorem dX6_readClause_27 : decode cX6_readClause 27 = .ok (.iconst 1, 1) := by decide +kernel
theorem dX6_readClause_28 : decode cX6_readClause 28 = .ok (.aload_n 0, 1) := by decide +kernel
theorem dX6_readClause_29 : decode cX6_readClause 29 = .ok (.getfield 29, 3) := by decide +kernel
theorem dX6_readClause_32 : decode cX6_readClause 32 = .ok (.invokevirtual 48, 3) := by decide +kernel
theorem dX6_readClause_35 : decode cX6_readClause 35 = .ok (.return_, 1) := by decide +kernel
theorem dX6_readClause_36 : decode cX6_readClause 36 = .ok (.iload_n 1, 1) := by decide +kernel
theorem dX6_readClause_37 : decode cX6_readClause 37 = .ok (.lookupswitch 71 #[(100, 57), (112, 64), (114, 50), (115, 43)], 43) := by decide +kernel
theorem dX6_readClause_80 : decode cX6_readClause 80 = .ok (.aload_n 0, 1) := by decide +kernel
theorem dX6_readClause_81 : decode cX6_readClause 81 = .ok (.invokevirtual 52, 3) := by decide +kernel
theorem dX6_readClause_84 : decode cX6_readClause 84 = .ok (.goto 33, 3) := by decide +kernel
theorem dX6_readClause_87 : decode cX6_readClause 87 = .ok (.aload_n 0, 1) := by decide +kernel
theorem dX6_readClause_88 : decode cX6_readClause 88 = .ok (.invokevirtual 55, 3) := by decide +kernel
theorem dX6_readClause_91 : decode cX6_readClause 91 = .ok (.goto 26, 3) := by decide +kernel
theorem dX6_readClause_94 : decode cX6_readClause 94 = .ok (.aload_n 0, 1) := by decide +kernel
theorem dX6_readClause_95 : decode cX6_readClause 95 = .ok (.invokevirtual 58, 3) := by decide +kernel
theorem dX6_readClause_98 : decode cX6_readClause 98 = .ok (.goto 19, 3) := by decide +kernel
theorem dX6_readClause_101 : decode cX6_readClause 101 = .ok (.aload_n 0, 1) := by decide +kernel
theorem dX6_readClause_102 : decode cX6_readClause 102 = .ok (.invokevirtual 61, 3) := by decide +kernel
theorem dX6_readClause_105 : decode cX6_readClause 105 = .ok (.goto 12, 3) := by decide +kernel
theorem dX6_readClause_108 : decode cX6_readClause 108 = .ok (.aload_n 0, 1) := by decide +kernel
theorem dX6_readClause_109 : decode cX6_readClause 109 = .ok (.iconst 1, 1) := by decide +kernel
theorem dX6_readClause_110 : decode cX6_readClause 110 = .ok (.aload_n 0, 1) := by decide +kernel
theorem dX6_readClause_111 : decode cX6_readClause 111 = .ok (.getfield 29, 3) := by decide +kernel
theorem dX6_readClause_114 : decode cX6_readClause 114 = .ok (.invokevirtual 48, 3) := by decide +kernel
theorem dX6_readClause_117 : decode cX6_readClause 117 = .ok (.return_, 1) := by decide +kernel
theorem dX6_readRule_0 : decode cX6_readRule 0 = .ok (.aload_n 0, 1) := by decide +kernel
theorem dX6_readRule_1 : decode cX6_readRule 1 = .ok (.aload_n 0, 1) := by decide +kernel
theorem dX6_readRule_2 : decode cX6_readRule 2 = .ok (.getfield 18, 3) := by decide +kernel
theorem dX6_readRule_5 : decode cX6_readRule 5 = .ok (.getfield 44, 3) := by decide +kernel
theorem dX6_readRule_8 : decode cX6_readRule 8 = .ok (.invokevirtual 64, 3) := by decide +kernel
theorem dX6_readRule_11 : decode cX6_readRule 11 = .ok (.aload_n 0, 1) := by decide +kernel
theorem dX6_readRule_12 : decode cX6_readRule 12 = .ok (.bipush 63, 2) := by decide +kernel
theorem dX6_readRule_14 : decode cX6_readRule 14 = .ok (.invokevirtual 68, 3) := by decide +kernel
theorem dX6_readRule_17 : decode cX6_readRule 17 = .ok (.istore_n 1, 1) := by decide +kernel
theorem dX6_readRule_18 : decode cX6_readRule 18 = .ok (.aload_n 0, 1) := by decide +kernel
theorem dX6_readRule_19 : decode cX6_readRule 19 = .ok (.invokevirtual 72, 3) := by decide +kernel
theorem dX6_readRule_22 : decode cX6_readRule 22 = .ok (.aload_n 0, 1) := by decide +kernel
theorem dX6_readRule_23 : decode cX6_readRule 23 = .ok (.getfield 32, 3) := by decide +kernel
theorem dX6_readRule_26 : decode cX6_readRule 26 = .ok (.ifCond .ne 19, 3) := by decide +kernel
theorem dX6_readRule_29 : decode cX6_readRule 29 = .ok (.aload_n 0, 1) := by decide +kernel
theorem dX6_readRule_30 : decode cX6_readRule 30 = .ok (.getfield 18, 3) := by decide +kernel
theorem dX6_readRule_33 : decode cX6_readRule 33 = .ok (.iload_n 1, 1) := by decide +kernel
theorem dX6_readRule_34 : decode cX6_readRule 34 = .ok (.putfield 75, 3) := by decide +kernel
theorem dX6_readRule_37 : decode cX6_readRule 37 = .ok (.aload_n 0, 1) := by decide +kernel
theorem dX6_readRule_38 : decode cX6_readRule 38 = .ok (.getfield 18, 3) := by decide +kernel
theorem dX6_readRule_41 : decode cX6_readRule 41 = .ok (.iconst 1, 1) := by decide +kernel
theorem dX6_readRule_42 : decode cX6_readRule 42 = .ok (.putfield 44, 3) := by decide +kernel
theorem dX6_readRule_45 : decode cX6_readRule 45 = .ok (.return_, 1) := by decide +kernel
theorem dX6_readRoom_0 : decode cX6_readRoom 0 = .ok (.aload_n 0, 1) := by decide +kernel
theorem dX6_readRoom_1 : decode cX6_readRoom 1 = .ok (.aload_n 0, 1) := by decide +kernel
theorem dX6_readRoom_2 : decode cX6_readRoom 2 = .ok (.getfield 18, 3) := by decide +kernel
theorem dX6_readRoom_5 : decode cX6_readRoom 5 = .ok (.getfield 78, 3) := by decide +kernel
theorem dX6_readRoom_8 : decode cX6_readRoom 8 = .ok (.bipush 8, 2) := by decide +kernel
theorem dX6_readRoom_10 : decode cX6_readRoom 10 = .ok (.if_icmp .lt 7, 3) := by decide +kernel
theorem dX6_readRoom_13 : decode cX6_readRoom 13 = .ok (.iconst 1, 1) := by decide +kernel
theorem dX6_readRoom_14 : decode cX6_readRoom 14 = .ok (.goto 4, 3) := by decide +kernel
theorem dX6_readRoom_17 : decode cX6_readRoom 17 = .ok (.iconst 0, 1) := by decide +kernel
theorem dX6_readRoom_18 : decode cX6_readRoom 18 = .ok (.invokevirtual 64, 3) := by decide +kernel
theorem dX6_readRoom_21 : decode cX6_readRoom 21 = .ok (.aload_n 0, 1) := by decide +kernel
theorem dX6_readRoom_22 : decode cX6_readRoom 22 = .ok (.bipush 9, 2) := by decide +kernel
theorem dX6_readRoom_24 : decode cX6_readRoom 24 = .ok (.invokevirtual 68, 3) := by decide +kernel
theorem dX6_readRoom_27 : decode cX6_readRoom 27 = .ok (.istore_n 1, 1) := by decide +kernel
theorem dX6_readRoom_28 : decode cX6_readRoom 28 = .ok (.aload_n 0, 1) := by decide +kernel
theorem dX6_readRoom_29 : decode cX6_readRoom 29 = .ok (.iconst 1, 1) := by decide +kernel
theorem dX6_readRoom_30 : decode cX6_readRoom 30 = .ok (.invokevirtual 68, 3) := by decide +kernel
theorem dX6_readRoom_33 : decode cX6_readRoom 33 = .ok (.istore_n 2, 1) := by decide +kernel
theorem dX6_readRoom_34 : decode cX6_readRoom 34 = .ok (.aload_n 0, 1) := by decide +kernel
theorem dX6_readRoom_35 : decode cX6_readRoom 35 = .ok (.invokevirtual 72, 3) := by decide +kernel
theorem dX6_readRoom_38 : decode cX6_readRoom 38 = .ok (.aload_n 0, 1) := by decide +kernel
theorem dX6_readRoom_39 : decode cX6_readRoom 39 = .ok (.getfield 32, 3) := by decide +kernel
theorem dX6_readRoom_42 : decode cX6_readRoom 42 = .ok (.ifCond .ne 12, 3) := by decide +kernel
theorem dX6_readRoom_45 : decode cX6_readRoom 45 = .ok (.aload_n 0, 1) := by decide +kernel
theorem dX6_readRoom_46 : decode cX6_readRoom 46 = .ok (.getfield 18, 3) := by decide +kernel
theorem dX6_readRoom_49 : decode cX6_readRoom 49 = .ok (.iload_n 1, 1) := by decide +kernel
theorem dX6_readRoom_50 : decode cX6_readRoom 50 = .ok (.iload_n 2, 1) := by decide +kernel
theorem dX6_readRoom_51 : decode cX6_readRoom 51 = .ok (.invokevirtual 81, 3) := by decide +kernel
theorem dX6_readRoom_54 : decode cX6_readRoom 54 = .ok (.return_, 1) := by decide +kernel
theorem dX6_readDoor_0 : decode cX6_readDoor 0 = .ok (.aload_n 0, 1) := by decide +kernel
theorem dX6_readDoor_1 : decode cX6_readDoor 1 = .ok (.aload_n 0, 1) := by decide +kernel
theorem dX6_readDoor_2 : decode cX6_readDoor 2 = .ok (.getfield 18, 3) := by decide +kernel
theorem dX6_readDoor_5 : decode cX6_readDoor 5 = .ok (.getfield 84, 3) := by decide +kernel
theorem dX6_readDoor_8 : decode cX6_readDoor 8 = .ok (.bipush 12, 2) := by decide +kernel
theorem dX6_readDoor_10 : decode cX6_readDoor 10 = .ok (.if_icmp .lt 7, 3) := by decide +kernel
theorem dX6_readDoor_13 : decode cX6_readDoor 13 = .ok (.iconst 1, 1) := by decide +kernel
theorem dX6_readDoor_14 : decode cX6_readDoor 14 = .ok (.goto 4, 3) := by decide +kernel
theorem dX6_readDoor_17 : decode cX6_readDoor 17 = .ok (.iconst 0, 1) := by decide +kernel
theorem dX6_readDoor_18 : decode cX6_readDoor 18 = .ok (.invokevirtual 64, 3) := by decide +kernel
theorem dX6_readDoor_21 : decode cX6_readDoor 21 = .ok (.aload_n 0, 1) := by decide +kernel
theorem dX6_readDoor_22 : decode cX6_readDoor 22 = .ok (.aload_n 0, 1) := by decide +kernel
theorem dX6_readDoor_23 : decode cX6_readDoor 23 = .ok (.getfield 18, 3) := by decide +kernel
theorem dX6_readDoor_26 : decode cX6_readDoor 26 = .ok (.getfield 78, 3) := by decide +kernel
theorem dX6_readDoor_29 : decode cX6_readDoor 29 = .ok (.iconst 1, 1) := by decide +kernel
theorem dX6_readDoor_30 : decode cX6_readDoor 30 = .ok (.isub, 1) := by decide +kernel
theorem dX6_readDoor_31 : decode cX6_readDoor 31 = .ok (.invokevirtual 68, 3) := by decide +kernel
theorem dX6_readDoor_34 : decode cX6_readDoor 34 = .ok (.istore_n 1, 1) := by decide +kernel
theorem dX6_readDoor_35 : decode cX6_readDoor 35 = .ok (.aload_n 0, 1) := by decide +kernel
theorem dX6_readDoor_36 : decode cX6_readDoor 36 = .ok (.aload_n 0, 1) := by decide +kernel
theorem dX6_readDoor_37 : decode cX6_readDoor 37 = .ok (.getfield 18, 3) := by decide +kernel
theorem dX6_readDoor_40 : decode cX6_readDoor 40 = .ok (.getfield 78, 3) := by decide +kernel
theorem dX6_readDoor_43 : decode cX6_readDoor 43 = .ok (.iconst 1, 1) := by decide +kernel
theorem dX6_readDoor_44 : decode cX6_readDoor 44 = .ok (.isub, 1) := by decide +kernel
theorem dX6_readDoor_45 : decode cX6_readDoor 45 = .ok (.invokevirtual 68, 3) := by decide +kernel
theorem dX6_readDoor_48 : decode cX6_readDoor 48 = .ok (.istore_n 2, 1) := by decide +kernel
theorem dX6_readDoor_49 : decode cX6_readDoor 49 = .ok (.aload_n 0, 1) := by decide +kernel
theorem dX6_readDoor_50 : decode cX6_readDoor 50 = .ok (.getfield 32, 3) := by decide +kernel
theorem dX6_readDoor_53 : decode cX6_readDoor 53 = .ok (.ifCond .ne 29, 3) := by decide +kernel
theorem dX6_readDoor_56 : decode cX6_readDoor 56 = .ok (.iload_n 1, 1) := by decide +kernel
theorem dX6_readDoor_57 : decode cX6_readDoor 57 = .ok (.iload_n 2, 1) := by decide +kernel
theorem dX6_readDoor_58 : decode cX6_readDoor 58 = .ok (.if_icmp .eq 15, 3) := by decide +kernel
theorem dX6_readDoor_61 : decode cX6_readDoor 61 = .ok (.aload_n 0, 1) := by decide +kernel
theorem dX6_readDoor_62 : decode cX6_readDoor 62 = .ok (.getfield 18, 3) := by decide +kernel
theorem dX6_readDoor_65 : decode cX6_readDoor 65 = .ok (.iload_n 1, 1) := by decide +kernel
theorem dX6_readDoor_66 : decode cX6_readDoor 66 = .ok (.iload_n 2, 1) := by decide +kernel
theorem dX6_readDoor_67 : decode cX6_readDoor 67 = .ok (.invokevirtual 87, 3) := by decide +kernel
theorem dX6_readDoor_70 : decode cX6_readDoor 70 = .ok (.ifCond .eq 12, 3) := by decide +kernel
theorem dX6_readDoor_73 : decode cX6_readDoor 73 = .ok (.aload_n 0, 1) := by decide +kernel
theorem dX6_readDoor_74 : decode cX6_readDoor 74 = .ok (.iconst 4, 1) := by decide +kernel
theorem dX6_readDoor_75 : decode cX6_readDoor 75 = .ok (.aload_n 0, 1) := by decide +kernel
theorem dX6_readDoor_76 : decode cX6_readDoor 76 = .ok (.getfield 91, 3) := by decide +kernel
theorem dX6_readDoor_79 : decode cX6_readDoor 79 = .ok (.invokevirtual 48, 3) := by decide +kernel
theorem dX6_readDoor_82 : decode cX6_readDoor 82 = .ok (.aload_n 0, 1) := by decide +kernel
theorem dX6_readDoor_83 : decode cX6_readDoor 83 = .ok (.invokevirtual 72, 3) := by decide +kernel
theorem dX6_readDoor_86 : decode cX6_readDoor 86 = .ok (.aload_n 0, 1) := by decide +kernel
theorem dX6_readDoor_87 : decode cX6_readDoor 87 = .ok (.getfield 32, 3) := by decide +kernel
theorem dX6_readDoor_90 : decode cX6_readDoor 90 = .ok (.ifCond .ne 12, 3) := by decide +kernel
theorem dX6_readDoor_93 : decode cX6_readDoor 93 = .ok (.aload_n 0, 1) := by decide +kernel
theorem dX6_readDoor_94 : decode cX6_readDoor 94 = .ok (.getfield 18, 3) := by decide +kernel
theorem dX6_readDoor_97 : decode cX6_readDoor 97 = .ok (.iload_n 1, 1) := by decide +kernel
theorem dX6_readDoor_98 : decode cX6_readDoor 98 = .ok (.iload_n 2, 1) := by decide +kernel
theorem dX6_readDoor_99 : decode cX6_readDoor 99 = .ok (.invokevirtual 94, 3) := by decide +kernel
theorem dX6_readDoor_102 : decode cX6_readDoor 102 = .ok (.return_, 1) := by decide +kernel
theorem dX6_readPetition_0 : decode cX6_readPetition 0 = .ok (.aload_n 0, 1) := by decide +kernel
theorem dX6_readPetition_1 : decode cX6_readPetition 1 = .ok (.aload_n 0, 1) := by decide +kernel
theorem dX6_readPetition_2 : decode cX6_readPetition 2 = .ok (.getfield 18, 3) := by decide +kernel
theorem dX6_readPetition_5 : decode cX6_readPetition 5 = .ok (.getfield 97, 3) := by decide +kernel
theorem dX6_readPetition_8 : decode cX6_readPetition 8 = .ok (.bipush 6, 2) := by decide +kernel
theorem dX6_readPetition_10 : decode cX6_readPetition 10 = .ok (.if_icmp .lt 7, 3) := by decide +kernel
theorem dX6_readPetition_13 : decode cX6_readPetition 13 = .ok (.iconst 1, 1) := by decide +kernel
theorem dX6_readPetition_14 : decode cX6_readPetition 14 = .ok (.goto 4, 3) := by decide +kernel
theorem dX6_readPetition_17 : decode cX6_readPetition 17 = .ok (.iconst 0, 1) := by decide +kernel
theorem dX6_readPetition_18 : decode cX6_readPetition 18 = .ok (.invokevirtual 64, 3) := by decide +kernel
theorem dX6_readPetition_21 : decode cX6_readPetition 21 = .ok (.aload_n 0, 1) := by decide +kernel
theorem dX6_readPetition_22 : decode cX6_readPetition 22 = .ok (.aload_n 0, 1) := by decide +kernel
theorem dX6_readPetition_23 : decode cX6_readPetition 23 = .ok (.getfield 18, 3) := by decide +kernel
theorem dX6_readPetition_26 : decode cX6_readPetition 26 = .ok (.getfield 78, 3) := by decide +kernel
theorem dX6_readPetition_29 : decode cX6_readPetition 29 = .ok (.iconst 1, 1) := by decide +kernel
theorem dX6_readPetition_30 : decode cX6_readPetition 30 = .ok (.isub, 1) := by decide +kernel
theorem dX6_readPetition_31 : decode cX6_readPetition 31 = .ok (.invokevirtual 68, 3) := by decide +kernel
theorem dX6_readPetition_34 : decode cX6_readPetition 34 = .ok (.istore_n 1, 1) := by decide +kernel
theorem dX6_readPetition_35 : decode cX6_readPetition 35 = .ok (.aload_n 0, 1) := by decide +kernel
theorem dX6_readPetition_36 : decode cX6_readPetition 36 = .ok (.bipush 99, 2) := by decide +kernel
theorem dX6_readPetition_38 : decode cX6_readPetition 38 = .ok (.invokevirtual 68, 3) := by decide +kernel
theorem dX6_readPetition_41 : decode cX6_readPetition 41 = .ok (.istore_n 2, 1) := by decide +kernel
theorem dX6_readPetition_42 : decode cX6_readPetition 42 = .ok (.aload_n 0, 1) := by decide +kernel
theorem dX6_readPetition_43 : decode cX6_readPetition 43 = .ok (.invokevirtual 72, 3) := by decide +kernel
theorem dX6_readPetition_46 : decode cX6_readPetition 46 = .ok (.aload_n 0, 1) := by decide +kernel
theorem dX6_readPetition_47 : decode cX6_readPetition 47 = .ok (.getfield 32, 3) := by decide +kernel
theorem dX6_readPetition_50 : decode cX6_readPetition 50 = .ok (.ifCond .ne 12, 3) := by decide +kernel
theorem dX6_readPetition_53 : decode cX6_readPetition 53 = .ok (.aload_n 0, 1) := by decide +kernel
theorem dX6_readPetition_54 : decode cX6_readPetition 54 = .ok (.getfield 18, 3) := by decide +kernel
theorem dX6_readPetition_57 : decode cX6_readPetition 57 = .ok (.iload_n 1, 1) := by decide +kernel
theorem dX6_readPetition_58 : decode cX6_readPetition 58 = .ok (.iload_n 2, 1) := by decide +kernel
theorem dX6_readPetition_59 : decode cX6_readPetition 59 = .ok (.invokevirtual 100, 3) := by decide +kernel
theorem dX6_readPetition_62 : decode cX6_readPetition 62 = .ok (.return_, 1) := by decide +kernel
theorem dX6_readWord_0 : decode cX6_readWord 0 = .ok (.iload_n 1, 1) := by decide +kernel
theorem dX6_readWord_1 : decode cX6_readWord 1 = .ok (.ifCond .eq 12, 3) := by decide +kernel
theorem dX6_readWord_4 : decode cX6_readWord 4 = .ok (.aload_n 0, 1) := by decide +kernel
theorem dX6_readWord_5 : decode cX6_readWord 5 = .ok (.iconst 3, 1) := by decide +kernel
theorem dX6_readWord_6 : decode cX6_readWord 6 = .ok (.aload_n 0, 1) := by decide +kernel
theorem dX6_readWord_7 : decode cX6_readWord 7 = .ok (.getfield 29, 3) := by decide +kernel
theorem dX6_readWord_10 : decode cX6_readWord 10 = .ok (.invokevirtual 48, 3) := by decide +kernel
theorem dX6_readWord_13 : decode cX6_readWord 13 = .ok (.aload_n 0, 1) := by decide +kernel
theorem dX6_readWord_14 : decode cX6_readWord 14 = .ok (.dup, 1) := by decide +kernel
theorem dX6_readWord_15 : decode cX6_readWord 15 = .ok (.getfield 29, 3) := by decide +kernel
theorem dX6_readWord_18 : decode cX6_readWord 18 = .ok (.iconst 1, 1) := by decide +kernel
theorem dX6_readWord_19 : decode cX6_readWord 19 = .ok (.iadd, 1) := by decide +kernel
theorem dX6_readWord_20 : decode cX6_readWord 20 = .ok (.putfield 29, 3) := by decide +kernel
theorem dX6_readWord_23 : decode cX6_readWord 23 = .ok (.return_, 1) := by decide +kernel
theorem dX6_readNumber_0 : decode cX6_readNumber 0 = .ok (.aload_n 0, 1) := by decide +kernel
theorem dX6_readNumber_1 : decode cX6_readNumber 1 = .ok (.getfield 32, 3) := by decide +kernel
theorem dX6_readNumber_4 : decode cX6_readNumber 4 = .ok (.ifCond .eq 5, 3) := by decide +kernel
theorem dX6_readNumber_7 : decode cX6_readNumber 7 = .ok (.iconst 0, 1) := by decide +kernel
theorem dX6_readNumber_8 : decode cX6_readNumber 8 = .ok (.ireturn, 1) := by decide +kernel
theorem dX6_readNumber_9 : decode cX6_readNumber 9 = .ok (.aload_n 0, 1) := by decide +kernel
theorem dX6_readNumber_10 : decode cX6_readNumber 10 = .ok (.invokevirtual 38, 3) := by decide +kernel
theorem dX6_readNumber_13 : decode cX6_readNumber 13 = .ok (.aload_n 0, 1) := by decide +kernel
theorem dX6_readNumber_14 : decode cX6_readNumber 14 = .ok (.aload_n 0, 1) := by decide +kernel
theorem dX6_readNumber_15 : decode cX6_readNumber 15 = .ok (.getfield 29, 3) := by decide +kernel
theorem dX6_readNumber_18 : decode cX6_readNumber 18 = .ok (.putfield 91, 3) := by decide +kernel
theorem dX6_readNumber_21 : decode cX6_readNumber 21 = .ok (.iconst 0, 1) := by decide +kernel
theorem dX6_readNumber_22 : decode cX6_readNumber 22 = .ok (.istore_n 2, 1) := by decide +kernel
theorem dX6_readNumber_23 : decode cX6_readNumber 23 = .ok (.aload_n 0, 1) := by decide +kernel
theorem dX6_readNumber_24 : decode cX6_readNumber 24 = .ok (.getfield 29, 3) := by decide +kernel
theorem dX6_readNumber_27 : decode cX6_readNumber 27 = .ok (.aload_n 0, 1) := by decide +kernel
theorem dX6_readNumber_28 : decode cX6_readNumber 28 = .ok (.getfield 26, 3) := by decide +kernel
theorem dX6_readNumber_31 : decode cX6_readNumber 31 = .ok (.if_icmp .ge 79, 3) := by decide +kernel
theorem dX6_readNumber_34 : decode cX6_readNumber 34 = .ok (.aload_n 0, 1) := by decide +kernel
theorem dX6_readNumber_35 : decode cX6_readNumber 35 = .ok (.getfield 22, 3) := by decide +kernel
theorem dX6_readNumber_38 : decode cX6_readNumber 38 = .ok (.aload_n 0, 1) := by decide +kernel
theorem dX6_readNumber_39 : decode cX6_readNumber 39 = .ok (.getfield 29, 3) := by decide +kernel
theorem dX6_readNumber_42 : decode cX6_readNumber 42 = .ok (.iaload, 1) := by decide +kernel
theorem dX6_readNumber_43 : decode cX6_readNumber 43 = .ok (.bipush 48, 2) := by decide +kernel
theorem dX6_readNumber_45 : decode cX6_readNumber 45 = .ok (.if_icmp .lt 65, 3) := by decide +kernel
theorem dX6_readNumber_48 : decode cX6_readNumber 48 = .ok (.aload_n 0, 1) := by decide +kernel
theorem dX6_readNumber_49 : decode cX6_readNumber 49 = .ok (.getfield 22, 3) := by decide +kernel
theorem dX6_readNumber_52 : decode cX6_readNumber 52 = .ok (.aload_n 0, 1) := by decide +kernel
theorem dX6_readNumber_53 : decode cX6_readNumber 53 = .ok (.getfield 29, 3) := by decide +kernel
theorem dX6_readNumber_56 : decode cX6_readNumber 56 = .ok (.iaload, 1) := by decide +kernel
theorem dX6_readNumber_57 : decode cX6_readNumber 57 = .ok (.bipush 57, 2) := by decide +kernel
theorem dX6_readNumber_59 : decode cX6_readNumber 59 = .ok (.if_icmp .gt 51, 3) := by decide +kernel
theorem dX6_readNumber_62 : decode cX6_readNumber 62 = .ok (.aload_n 0, 1) := by decide +kernel
theorem dX6_readNumber_63 : decode cX6_readNumber 63 = .ok (.getfield 29, 3) := by decide +kernel
theorem dX6_readNumber_66 : decode cX6_readNumber 66 = .ok (.aload_n 0, 1) := by decide +kernel
theorem dX6_readNumber_67 : decode cX6_readNumber 67 = .ok (.getfield 91, 3) := by decide +kernel
theorem dX6_readNumber_70 : decode cX6_readNumber 70 = .ok (.isub, 1) := by decide +kernel
theorem dX6_readNumber_71 : decode cX6_readNumber 71 = .ok (.iconst 3, 1) := by decide +kernel
theorem dX6_readNumber_72 : decode cX6_readNumber 72 = .ok (.if_icmp .ge 23, 3) := by decide +kernel
theorem dX6_readNumber_75 : decode cX6_readNumber 75 = .ok (.iload_n 2, 1) := by decide +kernel
theorem dX6_readNumber_76 : decode cX6_readNumber 76 = .ok (.bipush 10, 2) := by decide +kernel
theorem dX6_readNumber_78 : decode cX6_readNumber 78 = .ok (.imul, 1) := by decide +kernel
theorem dX6_readNumber_79 : decode cX6_readNumber 79 = .ok (.aload_n 0, 1) := by decide +kernel
theorem dX6_readNumber_80 : decode cX6_readNumber 80 = .ok (.getfield 22, 3) := by decide +kernel
theorem dX6_readNumber_83 : decode cX6_readNumber 83 = .ok (.aload_n 0, 1) := by decide +kernel
theorem dX6_readNumber_84 : decode cX6_readNumber 84 = .ok (.getfield 29, 3) := by decide +kernel
theorem dX6_readNumber_87 : decode cX6_readNumber 87 = .ok (.iaload, 1) := by decide +kernel
theorem dX6_readNumber_88 : decode cX6_readNumber 88 = .ok (.iadd, 1) := by decide +kernel
theorem dX6_readNumber_89 : decode cX6_readNumber 89 = .ok (.bipush 48, 2) := by decide +kernel
theorem dX6_readNumber_91 : decode cX6_readNumber 91 = .ok (.isub, 1) := by decide +kernel
theorem dX6_readNumber_92 : decode cX6_readNumber 92 = .ok (.goto 4, 3) := by decide +kernel
theorem dX6_readNumber_95 : decode cX6_readNumber 95 = .ok (.iload_n 2, 1) := by decide +kernel
theorem dX6_readNumber_96 : decode cX6_readNumber 96 = .ok (.istore_n 2, 1) := by decide +kernel
theorem dX6_readNumber_97 : decode cX6_readNumber 97 = .ok (.aload_n 0, 1) := by decide +kernel
theorem dX6_readNumber_98 : decode cX6_readNumber 98 = .ok (.dup, 1) := by decide +kernel
theorem dX6_readNumber_99 : decode cX6_readNumber 99 = .ok (.getfield 29, 3) := by decide +kernel
theorem dX6_readNumber_102 : decode cX6_readNumber 102 = .ok (.iconst 1, 1) := by decide +kernel
theorem dX6_readNumber_103 : decode cX6_readNumber 103 = .ok (.iadd, 1) := by decide +kernel
theorem dX6_readNumber_104 : decode cX6_readNumber 104 = .ok (.putfield 29, 3) := by decide +kernel
theorem dX6_readNumber_107 : decode cX6_readNumber 107 = .ok (.goto (-84), 3) := by decide +kernel
theorem dX6_readNumber_110 : decode cX6_readNumber 110 = .ok (.aload_n 0, 1) := by decide +kernel
theorem dX6_readNumber_111 : decode cX6_readNumber 111 = .ok (.getfield 29, 3) := by decide +kernel
theorem dX6_readNumber_114 : decode cX6_readNumber 114 = .ok (.aload_n 0, 1) := by decide +kernel
theorem dX6_readNumber_115 : decode cX6_readNumber 115 = .ok (.getfield 91, 3) := by decide +kernel
theorem dX6_readNumber_118 : decode cX6_readNumber 118 = .ok (.isub, 1) := by decide +kernel
theorem dX6_readNumber_119 : decode cX6_readNumber 119 = .ok (.istore_n 3, 1) := by decide +kernel
theorem dX6_readNumber_120 : decode cX6_readNumber 120 = .ok (.iload_n 3, 1) := by decide +kernel
theorem dX6_readNumber_121 : decode cX6_readNumber 121 = .ok (.ifCond .ne 15, 3) := by decide +kernel
theorem dX6_readNumber_124 : decode cX6_readNumber 124 = .ok (.aload_n 0, 1) := by decide +kernel
theorem dX6_readNumber_125 : decode cX6_readNumber 125 = .ok (.iconst 1, 1) := by decide +kernel
theorem dX6_readNumber_126 : decode cX6_readNumber 126 = .ok (.aload_n 0, 1) := by decide +kernel
theorem dX6_readNumber_127 : decode cX6_readNumber 127 = .ok (.getfield 29, 3) := by decide +kernel
theorem dX6_readNumber_130 : decode cX6_readNumber 130 = .ok (.invokevirtual 48, 3) := by decide +kernel
theorem dX6_readNumber_133 : decode cX6_readNumber 133 = .ok (.goto 22, 3) := by decide +kernel
theorem dX6_readNumber_136 : decode cX6_readNumber 136 = .ok (.iload_n 3, 1) := by decide +kernel
theorem dX6_readNumber_137 : decode cX6_readNumber 137 = .ok (.iconst 3, 1) := by decide +kernel
theorem dX6_readNumber_138 : decode cX6_readNumber 138 = .ok (.if_icmp .gt 8, 3) := by decide +kernel
theorem dX6_readNumber_141 : decode cX6_readNumber 141 = .ok (.iload_n 2, 1) := by decide +kernel
theorem dX6_readNumber_142 : decode cX6_readNumber 142 = .ok (.iload_n 1, 1) := by decide +kernel
theorem dX6_readNumber_143 : decode cX6_readNumber 143 = .ok (.if_icmp .le 12, 3) := by decide +kernel
theorem dX6_readNumber_146 : decode cX6_readNumber 146 = .ok (.aload_n 0, 1) := by decide +kernel
theorem dX6_readNumber_147 : decode cX6_readNumber 147 = .ok (.iconst 2, 1) := by decide +kernel
theorem dX6_readNumber_148 : decode cX6_readNumber 148 = .ok (.aload_n 0, 1) := by decide +kernel
theorem dX6_readNumber_149 : decode cX6_readNumber 149 = .ok (.getfield 91, 3) := by decide +kernel
theorem dX6_readNumber_152 : decode cX6_readNumber 152 = .ok (.invokevirtual 48, 3) := by decide +kernel
theorem dX6_readNumber_155 : decode cX6_readNumber 155 = .ok (.iload_n 2, 1) := by decide +kernel
theorem dX6_readNumber_156 : decode cX6_readNumber 156 = .ok (.ireturn, 1) := by decide +kernel
theorem dX6_readEnd_0 : decode cX6_readEnd 0 = .ok (.aload_n 0, 1) := by decide +kernel
theorem dX6_readEnd_1 : decode cX6_readEnd 1 = .ok (.getfield 32, 3) := by decide +kernel
theorem dX6_readEnd_4 : decode cX6_readEnd 4 = .ok (.ifCond .eq 4, 3) := by decide +kernel
theorem dX6_readEnd_7 : decode cX6_readEnd 7 = .ok (.return_, 1) := by decide +kernel
theorem dX6_readEnd_8 : decode cX6_readEnd 8 = .ok (.aload_n 0, 1) := by decide +kernel
theorem dX6_readEnd_9 : decode cX6_readEnd 9 = .ok (.invokevirtual 38, 3) := by decide +kernel
theorem dX6_readEnd_12 : decode cX6_readEnd 12 = .ok (.aload_n 0, 1) := by decide +kernel
theorem dX6_readEnd_13 : decode cX6_readEnd 13 = .ok (.getfield 29, 3) := by decide +kernel
theorem dX6_readEnd_16 : decode cX6_readEnd 16 = .ok (.aload_n 0, 1) := by decide +kernel
theorem dX6_readEnd_17 : decode cX6_readEnd 17 = .ok (.getfield 26, 3) := by decide +kernel
theorem dX6_readEnd_20 : decode cX6_readEnd 20 = .ok (.if_icmp .ge 17, 3) := by decide +kernel
theorem dX6_readEnd_23 : decode cX6_readEnd 23 = .ok (.aload_n 0, 1) := by decide +kernel
theorem dX6_readEnd_24 : decode cX6_readEnd 24 = .ok (.getfield 22, 3) := by decide +kernel
theorem dX6_readEnd_27 : decode cX6_readEnd 27 = .ok (.aload_n 0, 1) := by decide +kernel
theorem dX6_readEnd_28 : decode cX6_readEnd 28 = .ok (.getfield 29, 3) := by decide +kernel
theorem dX6_readEnd_31 : decode cX6_readEnd 31 = .ok (.iaload, 1) := by decide +kernel
theorem dX6_readEnd_32 : decode cX6_readEnd 32 = .ok (.bipush 59, 2) := by decide +kernel
theorem dX6_readEnd_34 : decode cX6_readEnd 34 = .ok (.if_icmp .eq 12, 3) := by decide +kernel
theorem dX6_readEnd_37 : decode cX6_readEnd 37 = .ok (.aload_n 0, 1) := by decide +kernel
theorem dX6_readEnd_38 : decode cX6_readEnd 38 = .ok (.iconst 1, 1) := by decide +kernel
theorem dX6_readEnd_39 : decode cX6_readEnd 39 = .ok (.aload_n 0, 1) := by decide +kernel
theorem dX6_readEnd_40 : decode cX6_readEnd 40 = .ok (.getfield 29, 3) := by decide +kernel
theorem dX6_readEnd_43 : decode cX6_readEnd 43 = .ok (.invokevirtual 48, 3) := by decide +kernel
theorem dX6_readEnd_46 : decode cX6_readEnd 46 = .ok (.aload_n 0, 1) := by decide +kernel
theorem dX6_readEnd_47 : decode cX6_readEnd 47 = .ok (.dup, 1) := by decide +kernel
theorem dX6_readEnd_48 : decode cX6_readEnd 48 = .ok (.getfield 29, 3) := by decide +kernel
theorem dX6_readEnd_51 : decode cX6_readEnd 51 = .ok (.iconst 1, 1) := by decide +kernel
theorem dX6_readEnd_52 : decode cX6_readEnd 52 = .ok (.iadd, 1) := by decide +kernel
theorem dX6_readEnd_53 : decode cX6_readEnd 53 = .ok (.putfield 29, 3) := by decide +kernel
theorem dX6_readEnd_56 : decode cX6_readEnd 56 = .ok (.return_, 1) := by decide +kernel
theorem dX6_skipBlanks_0 : decode cX6_skipBlanks 0 = .ok (.aload_n 0, 1) := by decide +kernel
theorem dX6_skipBlanks_1 : decode cX6_skipBlanks 1 = .ok (.getfield 29, 3) := by decide +kernel
theorem dX6_skipBlanks_4 : decode cX6_skipBlanks 4 = .ok (.aload_n 0, 1) := by decide +kernel
theorem dX6_skipBlanks_5 : decode cX6_skipBlanks 5 = .ok (.getfield 26, 3) := by decide +kernel
theorem dX6_skipBlanks_8 : decode cX6_skipBlanks 8 = .ok (.if_icmp .ge 30, 3) := by decide +kernel
theorem dX6_skipBlanks_11 : decode cX6_skipBlanks 11 = .ok (.aload_n 0, 1) := by decide +kernel
theorem dX6_skipBlanks_12 : decode cX6_skipBlanks 12 = .ok (.getfield 22, 3) := by decide +kernel
theorem dX6_skipBlanks_15 : decode cX6_skipBlanks 15 = .ok (.aload_n 0, 1) := by decide +kernel
theorem dX6_skipBlanks_16 : decode cX6_skipBlanks 16 = .ok (.getfield 29, 3) := by decide +kernel
theorem dX6_skipBlanks_19 : decode cX6_skipBlanks 19 = .ok (.iaload, 1) := by decide +kernel
theorem dX6_skipBlanks_20 : decode cX6_skipBlanks 20 = .ok (.bipush 32, 2) := by decide +kernel
theorem dX6_skipBlanks_22 : decode cX6_skipBlanks 22 = .ok (.if_icmp .ne 16, 3) := by decide +kernel
theorem dX6_skipBlanks_25 : decode cX6_skipBlanks 25 = .ok (.aload_n 0, 1) := by decide +kernel
theorem dX6_skipBlanks_26 : decode cX6_skipBlanks 26 = .ok (.dup, 1) := by decide +kernel
theorem dX6_skipBlanks_27 : decode cX6_skipBlanks 27 = .ok (.getfield 29, 3) := by decide +kernel
theorem dX6_skipBlanks_30 : decode cX6_skipBlanks 30 = .ok (.iconst 1, 1) := by decide +kernel
theorem dX6_skipBlanks_31 : decode cX6_skipBlanks 31 = .ok (.iadd, 1) := by decide +kernel
theorem dX6_skipBlanks_32 : decode cX6_skipBlanks 32 = .ok (.putfield 29, 3) := by decide +kernel
theorem dX6_skipBlanks_35 : decode cX6_skipBlanks 35 = .ok (.goto (-35), 3) := by decide +kernel
theorem dX6_skipBlanks_38 : decode cX6_skipBlanks 38 = .ok (.return_, 1) := by decide +kernel
theorem dX6_noteFault_0 : decode cX6_noteFault 0 = .ok (.aload_n 0, 1) := by decide +kernel
theorem dX6_noteFault_1 : decode cX6_noteFault 1 = .ok (.iload_n 1, 1) := by decide +kernel
theorem dX6_noteFault_2 : decode cX6_noteFault 2 = .ok (.putfield 32, 3) := by decide +kernel
theorem dX6_noteFault_5 : decode cX6_noteFault 5 = .ok (.aload_n 0, 1) := by decide +kernel
theorem dX6_noteFault_6 : decode cX6_noteFault 6 = .ok (.iload_n 2, 1) := by decide +kernel
theorem dX6_noteFault_7 : decode cX6_noteFault 7 = .ok (.putfield 9, 3) := by decide +kernel
theorem dX6_noteFault_10 : decode cX6_noteFault 10 = .ok (.return_, 1) := by decide +kernel
theorem dX7_init_0 : decode cX7_init 0 = .ok (.aload_n 0, 1) := by decide +kernel
theorem dX7_init_1 : decode cX7_init 1 = .ok (.invokespecial 3, 3) := by decide +kernel
theorem dX7_init_4 : decode cX7_init 4 = .ok (.aload_n 0, 1) := by decide +kernel
theorem dX7_init_5 : decode cX7_init 5 = .ok (.bipush 16, 2) := by decide +kernel
theorem dX7_init_7 : decode cX7_init 7 = .ok (.newarray .int, 2) := by decide +kernel
theorem dX7_init_9 : decode cX7_init 9 = .ok (.putfield 9, 3) := by decide +kernel
theorem dX7_init_12 : decode cX7_init 12 = .ok (.aload_n 0, 1) := by decide +kernel
theorem dX7_init_13 : decode cX7_init 13 = .ok (.bipush 16, 2) := by decide +kernel
theorem dX7_init_15 : decode cX7_init 15 = .ok (.newarray .int, 2) := by decide +kernel
theorem dX7_init_17 : decode cX7_init 17 = .ok (.putfield 15, 3) := by decide +kernel
theorem dX7_init_20 : decode cX7_init 20 = .ok (.aload_n 0, 1) := by decide +kernel
theorem dX7_init_21 : decode cX7_init 21 = .ok (.bipush 16, 2) := by decide +kernel
theorem dX7_init_23 : decode cX7_init 23 = .ok (.newarray .int, 2) := by decide +kernel
theorem dX7_init_25 : decode cX7_init 25 = .ok (.putfield 18, 3) := by decide +kernel
theorem dX7_init_28 : decode cX7_init 28 = .ok (.aload_n 0, 1) := by decide +kernel
theorem dX7_init_29 : decode cX7_init 29 = .ok (.bipush 16, 2) := by decide +kernel
theorem dX7_init_31 : decode cX7_init 31 = .ok (.newarray .int, 2) := by decide +kernel
theorem dX7_init_33 : decode cX7_init 33 = .ok (.putfield 21, 3) := by decide +kernel
theorem dX7_init_36 : decode cX7_init 36 = .ok (.return_, 1) := by decide +kernel
theorem dX7_clear_0 : decode cX7_clear 0 = .ok (.aload_n 0, 1) := by decide +kernel
theorem dX7_clear_1 : decode cX7_clear 1 = .ok (.iconst 0, 1) := by decide +kernel
theorem dX7_clear_2 : decode cX7_clear 2 = .ok (.putfield 24, 3) := by decide +kernel
theorem dX7_clear_5 : decode cX7_clear 5 = .ok (.aload_n 0, 1) := by decide +kernel
theorem dX7_clear_6 : decode cX7_clear 6 = .ok (.iconst 0, 1) := by decide +kernel
theorem dX7_clear_7 : decode cX7_clear 7 = .ok (.putfield 28, 3) := by decide +kernel
theorem dX7_clear_10 : decode cX7_clear 10 = .ok (.return_, 1) := by decide +kernel
theorem dX7_copyFrom_0 : decode cX7_copyFrom 0 = .ok (.aload_n 0, 1) := by decide +kernel
theorem dX7_copyFrom_1 : decode cX7_copyFrom 1 = .ok (.aload_n 1, 1) := by decide +kernel
theorem dX7_copyFrom_2 : decode cX7_copyFrom 2 = .ok (.getfield 24, 3) := by decide +kernel
theorem dX7_copyFrom_5 : decode cX7_copyFrom 5 = .ok (.putfield 24, 3) := by decide +kernel
theorem dX7_copyFrom_8 : decode cX7_copyFrom 8 = .ok (.aload_n 0, 1) := by decide +kernel
theorem dX7_copyFrom_9 : decode cX7_copyFrom 9 = .ok (.aload_n 1, 1) := by decide +kernel
theorem dX7_copyFrom_10 : decode cX7_copyFrom 10 = .ok (.getfield 28, 3) := by decide +kernel
theorem dX7_copyFrom_13 : decode cX7_copyFrom 13 = .ok (.putfield 28, 3) := by decide +kernel
theorem dX7_copyFrom_16 : decode cX7_copyFrom 16 = .ok (.aload_n 1, 1) := by decide +kernel
theorem dX7_copyFrom_17 : decode cX7_copyFrom 17 = .ok (.getfield 9, 3) := by decide +kernel
theorem dX7_copyFrom_20 : decode cX7_copyFrom 20 = .ok (.iconst 0, 1) := by decide +kernel
theorem dX7_copyFrom_21 : decode cX7_copyFrom 21 = .ok (.aload_n 0, 1) := by decide +kernel
theorem dX7_copyFrom_22 : decode cX7_copyFrom 22 = .ok (.getfield 9, 3) := by decide +kernel
theorem dX7_copyFrom_25 : decode cX7_copyFrom 25 = .ok (.iconst 0, 1) := by decide +kernel
theorem dX7_copyFrom_26 : decode cX7_copyFrom 26 = .ok (.bipush 16, 2) := by decide +kernel
theorem dX7_copyFrom_28 : decode cX7_copyFrom 28 = .ok (.invokestatic 31, 3) := by decide +kernel
theorem dX7_copyFrom_31 : decode cX7_copyFrom 31 = .ok (.aload_n 1, 1) := by decide +kernel
theorem dX7_copyFrom_32 : decode cX7_copyFrom 32 = .ok (.getfield 15, 3) := by decide +kernel
theorem dX7_copyFrom_35 : decode cX7_copyFrom 35 = .ok (.iconst 0, 1) := by decide +kernel
theorem dX7_copyFrom_36 : decode cX7_copyFrom 36 = .ok (.aload_n 0, 1) := by decide +kernel
theorem dX7_copyFrom_37 : decode cX7_copyFrom 37 = .ok (.getfield 15, 3) := by decide +kernel
theorem dX7_copyFrom_40 : decode cX7_copyFrom 40 = .ok (.iconst 0, 1) := by decide +kernel
theorem dX7_copyFrom_41 : decode cX7_copyFrom 41 = .ok (.bipush 16, 2) := by decide +kernel
theorem dX7_copyFrom_43 : decode cX7_copyFrom 43 = .ok (.invokestatic 31, 3) := by decide +kernel
theorem dX7_copyFrom_46 : decode cX7_copyFrom 46 = .ok (.aload_n 1, 1) := by decide +kernel
theorem dX7_copyFrom_47 : decode cX7_copyFrom 47 = .ok (.getfield 18, 3) := by decide +kernel
theorem dX7_copyFrom_50 : decode cX7_copyFrom 50 = .ok (.iconst 0, 1) := by decide +kernel
theorem dX7_copyFrom_51 : decode cX7_copyFrom 51 = .ok (.aload_n 0, 1) := by decide +kernel
theorem dX7_copyFrom_52 : decode cX7_copyFrom 52 = .ok (.getfield 18, 3) := by decide +kernel
theorem dX7_copyFrom_55 : decode cX7_copyFrom 55 = .ok (.iconst 0, 1) := by decide +kernel
theorem dX7_copyFrom_56 : decode cX7_copyFrom 56 = .ok (.bipush 16, 2) := by decide +kernel
theorem dX7_copyFrom_58 : decode cX7_copyFrom 58 = .ok (.invokestatic 31, 3) := by decide +kernel
theorem dX7_copyFrom_61 : decode cX7_copyFrom 61 = .ok (.aload_n 1, 1) := by decide +kernel
theorem dX7_copyFrom_62 : decode cX7_copyFrom 62 = .ok (.getfield 21, 3) := by decide +kernel
theorem dX7_copyFrom_65 : decode cX7_copyFrom 65 = .ok (.iconst 0, 1) := by decide +kernel
theorem dX7_copyFrom_66 : decode cX7_copyFrom 66 = .ok (.aload_n 0, 1) := by decide +kernel
theorem dX7_copyFrom_67 : decode cX7_copyFrom 67 = .ok (.getfield 21, 3) := by decide +kernel
theorem dX7_copyFrom_70 : decode cX7_copyFrom 70 = .ok (.iconst 0, 1) := by decide +kernel
theorem dX7_copyFrom_71 : decode cX7_copyFrom 71 = .ok (.bipush 16, 2) := by decide +kernel
theorem dX7_copyFrom_73 : decode cX7_copyFrom 73 = .ok (.invokestatic 31, 3) := by decide +kernel
theorem dX7_copyFrom_76 : decode cX7_copyFrom 76 = .ok (.return_, 1) := by decide +kernel
theorem dX7_add_0 : decode cX7_add 0 = .ok (.aload_n 0, 1) := by decide +kernel
theorem dX7_add_1 : decode cX7_add 1 = .ok (.getfield 9, 3) := by decide +kernel
theorem dX7_add_4 : decode cX7_add 4 = .ok (.aload_n 0, 1) := by decide +kernel
theorem dX7_add_5 : decode cX7_add 5 = .ok (.getfield 28, 3) := by decide +kernel
theorem dX7_add_8 : decode cX7_add 8 = .ok (.aload_n 1, 1) := by decide +kernel
theorem dX7_add_9 : decode cX7_add 9 = .ok (.getfield 37, 3) := by decide +kernel
theorem dX7_add_12 : decode cX7_add 12 = .ok (.bipush 10, 2) := by decide +kernel
theorem dX7_add_14 : decode cX7_add 14 = .ok (.imul, 1) := by decide +kernel
theorem dX7_add_15 : decode cX7_add 15 = .ok (.iload_n 2, 1) := by decide +kernel
theorem dX7_add_16 : decode cX7_add 16 = .ok (.iadd, 1) := by decide +kernel
theorem dX7_add_17 : decode cX7_add 17 = .ok (.iastore, 1) := by decide +kernel
theorem dX7_add_18 : decode cX7_add 18 = .ok (.aload_n 0, 1) := by decide +kernel
theorem dX7_add_19 : decode cX7_add 19 = .ok (.getfield 15, 3) := by decide +kernel
theorem dX7_add_22 : decode cX7_add 22 = .ok (.aload_n 0, 1) := by decide +kernel
theorem dX7_add_23 : decode cX7_add 23 = .ok (.getfield 28, 3) := by decide +kernel
theorem dX7_add_26 : decode cX7_add 26 = .ok (.aload_n 1, 1) := by decide +kernel
theorem dX7_add_27 : decode cX7_add 27 = .ok (.invokevirtual 42, 3) := by decide +kernel
theorem dX7_add_30 : decode cX7_add 30 = .ok (.aload_n 1, 1) := by decide +kernel
theorem dX7_add_31 : decode cX7_add 31 = .ok (.getfield 46, 3) := by decide +kernel
theorem dX7_add_34 : decode cX7_add 34 = .ok (.bipush 8, 2) := by decide +kernel
theorem dX7_add_36 : decode cX7_add 36 = .ok (.ishl, 1) := by decide +kernel
theorem dX7_add_37 : decode cX7_add 37 = .ok (.ior, 1) := by decide +kernel
theorem dX7_add_38 : decode cX7_add 38 = .ok (.aload_n 1, 1) := by decide +kernel
theorem dX7_add_39 : decode cX7_add 39 = .ok (.invokevirtual 49, 3) := by decide +kernel
theorem dX7_add_42 : decode cX7_add 42 = .ok (.ifCond .eq 8, 3) := by decide +kernel
theorem dX7_add_45 : decode cX7_add 45 = .ok (.ldc 53, 2) := by decide +kernel
theorem dX7_add_47 : decode cX7_add 47 = .ok (.goto 4, 3) := by decide +kernel
theorem dX7_add_50 : decode cX7_add 50 = .ok (.iconst 0, 1) := by decide +kernel
theorem dX7_add_51 : decode cX7_add 51 = .ok (.ior, 1) := by decide +kernel
theorem dX7_add_52 : decode cX7_add 52 = .ok (.iastore, 1) := by decide +kernel
theorem dX7_add_53 : decode cX7_add 53 = .ok (.aload_n 0, 1) := by decide +kernel
theorem dX7_add_54 : decode cX7_add 54 = .ok (.getfield 18, 3) := by decide +kernel
theorem dX7_add_57 : decode cX7_add 57 = .ok (.aload_n 0, 1) := by decide +kernel
theorem dX7_add_58 : decode cX7_add 58 = .ok (.getfield 28, 3) := by decide +kernel
theorem dX7_add_61 : decode cX7_add 61 = .ok (.aload_n 1, 1) := by decide +kernel
theorem dX7_add_62 : decode cX7_add 62 = .ok (.getfield 54, 3) := by decide +kernel
theorem dX7_add_65 : decode cX7_add 65 = .ok (.iastore, 1) := by decide +kernel
theorem dX7_add_66 : decode cX7_add 66 = .ok (.aload_n 0, 1) := by decide +kernel
theorem dX7_add_67 : decode cX7_add 67 = .ok (.getfield 21, 3) := by decide +kernel
theorem dX7_add_70 : decode cX7_add 70 = .ok (.aload_n 0, 1) := by decide +kernel
theorem dX7_add_71 : decode cX7_add 71 = .ok (.getfield 28, 3) := by decide +kernel
theorem dX7_add_74 : decode cX7_add 74 = .ok (.aload_n 1, 1) := by decide +kernel
theorem dX7_add_75 : decode cX7_add 75 = .ok (.getfield 56, 3) := by decide +kernel
theorem dX7_add_78 : decode cX7_add 78 = .ok (.iastore, 1) := by decide +kernel
theorem dX7_add_79 : decode cX7_add 79 = .ok (.aload_n 0, 1) := by decide +kernel
theorem dX7_add_80 : decode cX7_add 80 = .ok (.aload_n 0, 1) := by decide +kernel
theorem dX7_add_81 : decode cX7_add 81 = .ok (.getfield 28, 3) := by decide +kernel
theorem dX7_add_84 : decode cX7_add 84 = .ok (.iconst 1, 1) := by decide +kernel
theorem dX7_add_85 : decode cX7_add 85 = .ok (.iadd, 1) := by decide +kernel
theorem dX7_add_86 : decode cX7_add 86 = .ok (.bipush 16, 2) := by decide +kernel
theorem dX7_add_88 : decode cX7_add 88 = .ok (.irem, 1) := by decide +kernel
theorem dX7_add_89 : decode cX7_add 89 = .ok (.putfield 28, 3) := by decide +kernel
theorem dX7_add_92 : decode cX7_add 92 = .ok (.aload_n 0, 1) := by decide +kernel
theorem dX7_add_93 : decode cX7_add 93 = .ok (.bipush 16, 2) := by decide +kernel
theorem dX7_add_95 : decode cX7_add 95 = .ok (.aload_n 0, 1) := by decide +kernel
theorem dX7_add_96 : decode cX7_add 96 = .ok (.getfield 24, 3) := by decide +kernel
theorem dX7_add_99 : decode cX7_add 99 = .ok (.iconst 1, 1) := by decide +kernel
theorem dX7_add_100 : decode cX7_add 100 = .ok (.iadd, 1) := by decide +kernel
theorem dX7_add_101 : decode cX7_add 101 = .ok (.invokestatic 58, 3) := by decide +kernel
theorem dX7_add_104 : decode cX7_add 104 = .ok (.putfield 24, 3) := by decide +kernel
theorem dX7_add_107 : decode cX7_add 107 = .ok (.return_, 1) := by decide +kernel
theorem dX7_fromAndTo_0 : decode cX7_fromAndTo 0 = .ok (.aload_n 0, 1) := by decide +kernel
theorem dX7_fromAndTo_1 : decode cX7_fromAndTo 1 = .ok (.getfield 9, 3) := by decide +kernel
theorem dX7_fromAndTo_4 : decode cX7_fromAndTo 4 = .ok (.aload_n 0, 1) := by decide +kernel
theorem dX7_fromAndTo_5 : decode cX7_fromAndTo 5 = .ok (.getfield 28, 3) := by decide +kernel
theorem dX7_fromAndTo_8 : decode cX7_fromAndTo 8 = .ok (.bipush 16, 2) := by decide +kernel
theorem dX7_fromAndTo_10 : decode cX7_fromAndTo 10 = .ok (.iadd, 1) := by decide +kernel
theorem dX7_fromAndTo_11 : decode cX7_fromAndTo 11 = .ok (.iconst 1, 1) := by decide +kernel
theorem dX7_fromAndTo_12 : decode cX7_fromAndTo 12 = .ok (.isub, 1) := by decide +kernel
theorem dX7_fromAndTo_13 : decode cX7_fromAndTo 13 = .ok (.iload_n 1, 1) := by decide +kernel
theorem dX7_fromAndTo_14 : decode cX7_fromAndTo 14 = .ok (.isub, 1) := by decide +kernel
theorem dX7_fromAndTo_15 : decode cX7_fromAndTo 15 = .ok (.bipush 16, 2) := by decide +kernel
theorem dX7_fromAndTo_17 : decode cX7_fromAndTo 17 = .ok (.irem, 1) := by decide +kernel
theorem dX7_fromAndTo_18 : decode cX7_fromAndTo 18 = .ok (.iaload, 1) := by decide +kernel
theorem dX7_fromAndTo_19 : decode cX7_fromAndTo 19 = .ok (.ireturn, 1) := by decide +kernel
theorem dX7_fittingRules_0 : decode cX7_fittingRules 0 = .ok (.lconst 0, 1) := by decide +kernel
theorem dX7_fittingRules_1 : decode cX7_fittingRules 1 = .ok (.lstore_n 1, 1) := by decide +kernel
theorem dX7_fittingRules_2 : decode cX7_fittingRules 2 = .ok (.iconst 0, 1) := by decide +kernel
theorem dX7_fittingRules_3 : decode cX7_fittingRules 3 = .ok (.istore_n 3, 1) := by decide +kernel
theorem dX7_fittingRules_4 : decode cX7_fittingRules 4 = .ok (.iload_n 3, 1) := by decide +kernel
theorem dX7_fittingRules_5 : decode cX7_fittingRules 5 = .ok (.bipush 64, 2) := by decide +kernel
theorem dX7_fittingRules_7 : decode cX7_fittingRules 7 = .ok (.if_icmp .ge 23, 3) := by decide +kernel
theorem dX7_fittingRules_10 : decode cX7_fittingRules 10 = .ok (.aload_n 0, 1) := by decide +kernel
theorem dX7_fittingRules_11 : decode cX7_fittingRules 11 = .ok (.iload_n 3, 1) := by decide +kernel
theorem dX7_fittingRules_12 : decode cX7_fittingRules 12 = .ok (.invokevirtual 64, 3) := by decide +kernel
theorem dX7_fittingRules_15 : decode cX7_fittingRules 15 = .ok (.ifCond .eq 9, 3) := by decide +kernel
theorem dX7_fittingRules_18 : decode cX7_fittingRules 18 = .ok (.lload_n 1, 1) := by decide +kernel
theorem dX7_fittingRules_19 : decode cX7_fittingRules 19 = .ok (.lconst 1, 1) := by decide +kernel
theorem dX7_fittingRules_20 : decode cX7_fittingRules 20 = .ok (.iload_n 3, 1) := by decide +kernel
theorem dX7_fittingRules_21 : decode cX7_fittingRules 21 = .ok (.lshl, 1) := by decide +kernel
theorem dX7_fittingRules_22 : decode cX7_fittingRules 22 = .ok (.lor, 1) := by decide +kernel
theorem dX7_fittingRules_23 : decode cX7_fittingRules 23 = .ok (.lstore_n 1, 1) := by decide +kernel
theorem dX7_fittingRules_24 : decode cX7_fittingRules 24 = .ok (.iinc 3 1, 3) := by decide +kernel
theorem dX7_fittingRules_27 : decode cX7_fittingRules 27 = .ok (.goto (-23), 3) := by decide +kernel
theorem dX7_fittingRules_30 : decode cX7_fittingRules 30 = .ok (.lload_n 1, 1) := by decide +kernel
theorem dX7_fittingRules_31 : decode cX7_fittingRules 31 = .ok (.lreturn, 1) := by decide +kernel
theorem dX7_isFitting_0 : decode cX7_isFitting 0 = .ok (.iconst 0, 1) := by decide +kernel
theorem dX7_isFitting_1 : decode cX7_isFitting 1 = .ok (.istore_n 2, 1) := by decide +kernel
theorem dX7_isFitting_2 : decode cX7_isFitting 2 = .ok (.iload_n 2, 1) := by decide +kernel
theorem dX7_isFitting_3 : decode cX7_isFitting 3 = .ok (.aload_n 0, 1) := by decide +kernel
theorem dX7_isFitting_4 : decode cX7_isFitting 4 = .ok (.getfield 24, 3) := by decide +kernel
theorem dX7_isFitting_7 : decode cX7_isFitting 7 = .ok (.if_icmp .ge 84, 3) := by decide +kernel
theorem dX7_isFitting_10 : decode cX7_isFitting 10 = .ok (.iload_n 1, 1) := by decide +kernel
theorem dX7_isFitting_11 : decode cX7_isFitting 11 = .ok (.aload_n 0, 1) := by decide +kernel
theorem dX7_isFitting_12 : decode cX7_isFitting 12 = .ok (.getfield 15, 3) := by decide +kernel
theorem dX7_isFitting_15 : decode cX7_isFitting 15 = .ok (.iload_n 2, 1) := by decide +kernel
theorem dX7_isFitting_16 : decode cX7_isFitting 16 = .ok (.iaload, 1) := by decide +kernel
theorem dX7_isFitting_17 : decode cX7_isFitting 17 = .ok (.sipush 255, 3) := by decide +kernel
theorem dX7_isFitting_20 : decode cX7_isFitting 20 = .ok (.iand, 1) := by decide +kernel
theorem dX7_isFitting_21 : decode cX7_isFitting 21 = .ok (.aload_n 0, 1) := by decide +kernel
theorem dX7_isFitting_22 : decode cX7_isFitting 22 = .ok (.getfield 18, 3) := by decide +kernel
theorem dX7_isFitting_25 : decode cX7_isFitting 25 = .ok (.iload_n 2, 1) := by decide +kernel
theorem dX7_isFitting_26 : decode cX7_isFitting 26 = .ok (.iaload, 1) := by decide +kernel
theorem dX7_isFitting_27 : decode cX7_isFitting 27 = .ok (.aload_n 0, 1) := by decide +kernel
theorem dX7_isFitting_28 : decode cX7_isFitting 28 = .ok (.getfield 15, 3) := by decide +kernel
theorem dX7_isFitting_31 : decode cX7_isFitting 31 = .ok (.iload_n 2, 1) := by decide +kernel
theorem dX7_isFitting_32 : decode cX7_isFitting 32 = .ok (.iaload, 1) := by decide +kernel
theorem dX7_isFitting_33 : decode cX7_isFitting 33 = .ok (.bipush 8, 2) := by decide +kernel
theorem dX7_isFitting_35 : decode cX7_isFitting 35 = .ok (.ishr, 1) := by decide +kernel
theorem dX7_isFitting_36 : decode cX7_isFitting 36 = .ok (.sipush 255, 3) := by decide +kernel
theorem dX7_isFitting_39 : decode cX7_isFitting 39 = .ok (.iand, 1) := by decide +kernel
theorem dX7_isFitting_40 : decode cX7_isFitting 40 = .ok (.aload_n 0, 1) := by decide +kernel
theorem dX7_isFitting_41 : decode cX7_isFitting 41 = .ok (.getfield 21, 3) := by decide +kernel
theorem dX7_isFitting_44 : decode cX7_isFitting 44 = .ok (.iload_n 2, 1) := by decide +kernel
theorem dX7_isFitting_45 : decode cX7_isFitting 45 = .ok (.iaload, 1) := by decide +kernel
theorem dX7_isFitting_46 : decode cX7_isFitting 46 = .ok (.aload_n 0, 1) := by decide +kernel
theorem dX7_isFitting_47 : decode cX7_isFitting 47 = .ok (.getfield 15, 3) := by decide +kernel
theorem dX7_isFitting_50 : decode cX7_isFitting 50 = .ok (.iload_n 2, 1) := by decide +kernel
theorem dX7_isFitting_51 : decode cX7_isFitting 51 = .ok (.iaload, 1) := by decide +kernel
theorem dX7_isFitting_52 : decode cX7_isFitting 52 = .ok (.bipush 16, 2) := by decide +kernel
theorem dX7_isFitting_54 : decode cX7_isFitting 54 = .ok (.invokestatic 68, 3) := by decide +kernel
theorem dX7_isFitting_57 : decode cX7_isFitting 57 = .ok (.iconst 1, 1) := by decide +kernel
theorem dX7_isFitting_58 : decode cX7_isFitting 58 = .ok (.if_icmp .ne 7, 3) := by decide +kernel
theorem dX7_isFitting_61 : decode cX7_isFitting 61 = .ok (.iconst 1, 1) := by decide +kernel
theorem dX7_isFitting_62 : decode cX7_isFitting 62 = .ok (.goto 4, 3) := by decide +kernel
theorem dX7_isFitting_65 : decode cX7_isFitting 65 = .ok (.iconst 0, 1) := by decide +kernel
theorem dX7_isFitting_66 : decode cX7_isFitting 66 = .ok (.invokestatic 71, 3) := by decide +kernel
theorem dX7_isFitting_69 : decode cX7_isFitting 69 = .ok (.istore_n 3, 1) := by decide +kernel
theorem dX7_isFitting_70 : decode cX7_isFitting 70 = .ok (.iload_n 3, 1) := by decide +kernel
theorem dX7_isFitting_71 : decode cX7_isFitting 71 = .ok (.aload_n 0, 1) := by decide +kernel
theorem dX7_isFitting_72 : decode cX7_isFitting 72 = .ok (.getfield 9, 3) := by decide +kernel
theorem dX7_isFitting_75 : decode cX7_isFitting 75 = .ok (.iload_n 2, 1) := by decide +kernel
theorem dX7_isFitting_76 : decode cX7_isFitting 76 = .ok (.iaload, 1) := by decide +kernel
theorem dX7_isFitting_77 : decode cX7_isFitting 77 = .ok (.bipush 10, 2) := by decide +kernel
theorem dX7_isFitting_79 : decode cX7_isFitting 79 = .ok (.irem, 1) := by decide +kernel
theorem dX7_isFitting_80 : decode cX7_isFitting 80 = .ok (.if_icmp .eq 5, 3) := by decide +kernel
theorem dX7_isFitting_83 : decode cX7_isFitting 83 = .ok (.iconst 0, 1) := by decide +kernel
theorem dX7_isFitting_84 : decode cX7_isFitting 84 = .ok (.ireturn, 1) := by decide +kernel
theorem dX7_isFitting_85 : decode cX7_isFitting 85 = .ok (.iinc 2 1, 3) := by decide +kernel
theorem dX7_isFitting_88 : decode cX7_isFitting 88 = .ok (.goto (-86), 3) := by decide +kernel
theorem dX7_isFitting_91 : decode cX7_isFitting 91 = .ok (.iconst 1, 1) := by decide +kernel
theorem dX7_isFitting_92 : decode cX7_isFitting 92 = .ok (.ireturn, 1) := by decide +kernel
theorem dX8_init_0 : decode cX8_init 0 = .ok (.aload_n 0, 1) := by decide +kernel
theorem dX8_init_1 : decode cX8_init 1 = .ok (.invokespecial 1, 3) := by decide +kernel
theorem dX8_init_4 : decode cX8_init 4 = .ok (.aload_n 0, 1) := by decide +kernel
theorem dX8_init_5 : decode cX8_init 5 = .ok (.new 7, 3) := by decide +kernel
theorem dX8_init_8 : decode cX8_init 8 = .ok (.dup, 1) := by decide +kernel
theorem dX8_init_9 : decode cX8_init 9 = .ok (.invokespecial 9, 3) := by decide +kernel
theorem dX8_init_12 : decode cX8_init 12 = .ok (.putfield 10, 3) := by decide +kernel
theorem dX8_init_15 : decode cX8_init 15 = .ok (.aload_n 0, 1) := by decide +kernel
theorem dX8_init_16 : decode cX8_init 16 = .ok (.new 16, 3) := by decide +kernel
theorem dX8_init_19 : decode cX8_init 19 = .ok (.dup, 1) := by decide +kernel
theorem dX8_init_20 : decode cX8_init 20 = .ok (.invokespecial 18, 3) := by decide +kernel
theorem dX8_init_23 : decode cX8_init 23 = .ok (.putfield 19, 3) := by decide +kernel
theorem dX8_init_26 : decode cX8_init 26 = .ok (.aload_n 0, 1) := by decide +kernel
theorem dX8_init_27 : decode cX8_init 27 = .ok (.new 23, 3) := by decide +kernel
theorem dX8_init_30 : decode cX8_init 30 = .ok (.dup, 1) := by decide +kernel
theorem dX8_init_31 : decode cX8_init 31 = .ok (.invokespecial 25, 3) := by decide +kernel
theorem dX8_init_34 : decode cX8_init 34 = .ok (.putfield 26, 3) := by decide +kernel
theorem dX8_init_37 : decode cX8_init 37 = .ok (.aload_n 0, 1) := by decide +kernel
theorem dX8_init_38 : decode cX8_init 38 = .ok (.new 30, 3) := by decide +kernel
theorem dX8_init_41 : decode cX8_init 41 = .ok (.dup, 1) := by decide +kernel
theorem dX8_init_42 : decode cX8_init 42 = .ok (.invokespecial 32, 3) := by decide +kernel
theorem dX8_init_45 : decode cX8_init 45 = .ok (.putfield 33, 3) := by decide +kernel
theorem dX8_init_48 : decode cX8_init 48 = .ok (.aload_n 0, 1) := by decide +kernel
theorem dX8_init_49 : decode cX8_init 49 = .ok (.iconst 2, 1) := by decide +kernel
theorem dX8_init_50 : decode cX8_init 50 = .ok (.anewarray 37, 3) := by decide +kernel
theorem dX8_init_53 : decode cX8_init 53 = .ok (.putfield 39, 3) := by decide +kernel
theorem dX8_init_56 : decode cX8_init 56 = .ok (.aload_n 0, 1) := by decide +kernel
theorem dX8_init_57 : decode cX8_init 57 = .ok (.new 43, 3) := by decide +kernel
theorem dX8_init_60 : decode cX8_init 60 = .ok (.dup, 1) := by decide +kernel
theorem dX8_init_61 : decode cX8_init 61 = .ok (.invokespecial 45, 3) := by decide +kernel
theorem dX8_init_64 : decode cX8_init 64 = .ok (.putfield 46, 3) := by decide +kernel
theorem dX8_init_67 : decode cX8_init 67 = .ok (.aload_n 0, 1) := by decide +kernel
theorem dX8_init_68 : decode cX8_init 68 = .ok (.new 50, 3) := by decide +kernel
theorem dX8_init_71 : decode cX8_init 71 = .ok (.dup, 1) := by decide +kernel
theorem dX8_init_72 : decode cX8_init 72 = .ok (.invokespecial 52, 3) := by decide +kernel
theorem dX8_init_75 : decode cX8_init 75 = .ok (.putfield 53, 3) := by decide +kernel
theorem dX8_init_78 : decode cX8_init 78 = .ok (.aload_n 0, 1) := by decide +kernel
theorem dX8_init_79 : decode cX8_init 79 = .ok (.new 50, 3) := by decide +kernel
theorem dX8_init_82 : decode cX8_init 82 = .ok (.dup, 1) := by decide +kernel
theorem dX8_init_83 : decode cX8_init 83 = .ok (.invokespecial 52, 3) := by decide +kernel
theorem dX8_init_86 : decode cX8_init 86 = .ok (.putfield 57, 3) := by decide +kernel
theorem dX8_init_89 : decode cX8_init 89 = .ok (.aload_n 0, 1) := by decide +kernel
theorem dX8_init_90 : decode cX8_init 90 = .ok (.bipush 8, 2) := by decide +kernel
theorem dX8_init_92 : decode cX8_init 92 = .ok (.newarray .int, 2) := by decide +kernel
theorem dX8_init_94 : decode cX8_init 94 = .ok (.putfield 60, 3) := by decide +kernel
theorem dX8_init_97 : decode cX8_init 97 = .ok (.iconst 0, 1) := by decide +kernel
theorem dX8_init_98 : decode cX8_init 98 = .ok (.istore_n 1, 1) := by decide +kernel
theorem dX8_init_99 : decode cX8_init 99 = .ok (.iload_n 1, 1) := by decide +kernel
theorem dX8_init_100 : decode cX8_init 100 = .ok (.iconst 2, 1) := by decide +kernel
theorem dX8_init_101 : decode cX8_init 101 = .ok (.if_icmp .ge 22, 3) := by decide +kernel
theorem dX8_init_104 : decode cX8_init 104 = .ok (.aload_n 0, 1) := by decide +kernel
theorem dX8_init_105 : decode cX8_init 105 = .ok (.getfield 39, 3) := by decide +kernel
theorem dX8_init_108 : decode cX8_init 108 = .ok (.iload_n 1, 1) := by decide +kernel
theorem dX8_init_109 : decode cX8_init 109 = .ok (.new 37, 3) := by decide +kernel
theorem dX8_init_112 : decode cX8_init 112 = .ok (.dup, 1) := by decide +kernel
theorem dX8_init_113 : decode cX8_init 113 = .ok (.invokespecial 64, 3) := by decide +kernel
theorem dX8_init_116 : decode cX8_init 116 = .ok (.aastore, 1) := by decide +kernel
theorem dX8_init_117 : decode cX8_init 117 = .ok (.iinc 1 1, 3) := by decide +kernel
theorem dX8_init_120 : decode cX8_init 120 = .ok (.goto (-21), 3) := by decide +kernel
theorem dX8_init_123 : decode cX8_init 123 = .ok (.return_, 1) := by decide +kernel
theorem dX8_feed_0 : decode cX8_feed 0 = .ok (.iload_n 1, 1) := by decide +kernel
theorem dX8_feed_1 : decode cX8_feed 1 = .ok (.ifCond .lt 10, 3) := by decide +kernel
theorem dX8_feed_4 : decode cX8_feed 4 = .ok (.iload_n 1, 1) := by decide +kernel
theorem dX8_feed_5 : decode cX8_feed 5 = .ok (.sipush 255, 3) := by decide +kernel
theorem dX8_feed_8 : decode cX8_feed 8 = .ok (.if_icmp .le 6, 3) := by decide +kernel
theorem dX8_feed_11 : decode cX8_feed 11 = .ok (.ldc 65, 2) := by decide +kernel
theorem dX8_feed_13 : decode cX8_feed 13 = .ok (.ireturn, 1) := by decide +kernel
theorem dX8_feed_14 : decode cX8_feed 14 = .ok (.aload_n 0, 1) := by decide +kernel
theorem dX8_feed_15 : decode cX8_feed 15 = .ok (.getfield 10, 3) := by decide +kernel
theorem dX8_feed_18 : decode cX8_feed 18 = .ok (.getfield 66, 3) := by decide +kernel
theorem dX8_feed_21 : decode cX8_feed 21 = .ok (.sipush 240, 3) := by decide +kernel
theorem dX8_feed_24 : decode cX8_feed 24 = .ok (.if_icmp .lt 6, 3) := by decide +kernel
theorem dX8_feed_27 : decode cX8_feed 27 = .ok (.ldc 70, 2) := by decide +kernel
theorem dX8_feed_29 : decode cX8_feed 29 = .ok (.ireturn, 1) := by decide +kernel
theorem dX8_feed_30 : decode cX8_feed 30 = .ok (.aload_n 0, 1) := by decide +kernel
theorem dX8_feed_31 : decode cX8_feed 31 = .ok (.getfield 10, 3) := by decide +kernel
theorem dX8_feed_34 : decode cX8_feed 34 = .ok (.iload_n 1, 1) := by decide +kernel
theorem dX8_feed_35 : decode cX8_feed 35 = .ok (.invokevirtual 71, 3) := by decide +kernel
theorem dX8_feed_38 : decode cX8_feed 38 = .ok (.aload_n 0, 1) := by decide +kernel
theorem dX8_feed_39 : decode cX8_feed 39 = .ok (.getfield 10, 3) := by decide +kernel
theorem dX8_feed_42 : decode cX8_feed 42 = .ok (.getfield 66, 3) := by decide +kernel
theorem dX8_feed_45 : decode cX8_feed 45 = .ok (.ireturn, 1) := by decide +kernel
theorem dX8_palace_0 : decode cX8_palace 0 = .ok (.aload_n 0, 1) := by decide +kernel
theorem dX8_palace_1 : decode cX8_palace 1 = .ok (.getfield 10, 3) := by decide +kernel
theorem dX8_palace_4 : decode cX8_palace 4 = .ok (.invokevirtual 75, 3) := by decide +kernel
theorem dX8_palace_7 : decode cX8_palace 7 = .ok (.aload_n 0, 1) := by decide +kernel
theorem dX8_palace_8 : decode cX8_palace 8 = .ok (.getfield 10, 3) := by decide +kernel
theorem dX8_palace_11 : decode cX8_palace 11 = .ok (.iconst 0, 1) := by decide +kernel
theorem dX8_palace_12 : decode cX8_palace 12 = .ok (.putfield 66, 3) := by decide +kernel
theorem dX8_palace_15 : decode cX8_palace 15 = .ok (.aload_n 0, 1) := by decide +kernel
theorem dX8_palace_16 : decode cX8_palace 16 = .ok (.getfield 10, 3) := by decide +kernel
theorem dX8_palace_19 : decode cX8_palace 19 = .ok (.getfield 78, 3) := by decide +kernel
theorem dX8_palace_22 : decode cX8_palace 22 = .ok (.ifCond .eq 14, 3) := by decide +kernel
theorem dX8_palace_25 : decode cX8_palace 25 = .ok (.bipush (-10), 2) := by decide +kernel
theorem dX8_palace_27 : decode cX8_palace 27 = .ok (.aload_n 0, 1) := by decide +kernel
theorem dX8_palace_28 : decode cX8_palace 28 = .ok (.getfield 10, 3) := by decide +kernel
theorem dX8_palace_31 : decode cX8_palace 31 = .ok (.getfield 78, 3) := by decide +kernel
theorem dX8_palace_34 : decode cX8_palace 34 = .ok (.isub, 1) := by decide +kernel
theorem dX8_palace_35 : decode cX8_palace 35 = .ok (.ireturn, 1) := by decide +kernel
theorem dX8_palace_36 : decode cX8_palace 36 = .ok (.aload_n 0, 1) := by decide +kernel
theorem dX8_palace_37 : decode cX8_palace 37 = .ok (.getfield 19, 3) := by decide +kernel
theorem dX8_palace_40 : decode cX8_palace 40 = .ok (.astore_n 1, 1) := by decide +kernel
theorem dX8_palace_41 : decode cX8_palace 41 = .ok (.aload_n 0, 1) := by decide +kernel
theorem dX8_palace_42 : decode cX8_palace 42 = .ok (.aload_n 0, 1) := by decide +kernel
theorem dX8_palace_43 : decode cX8_palace 43 = .ok (.getfield 10, 3) := by decide +kernel
theorem dX8_palace_46 : decode cX8_palace 46 = .ok (.getfield 81, 3) := by decide +kernel
theorem dX8_palace_49 : decode cX8_palace 49 = .ok (.putfield 19, 3) := by decide +kernel
theorem dX8_palace_52 : decode cX8_palace 52 = .ok (.aload_n 0, 1) := by decide +kernel
theorem dX8_palace_53 : decode cX8_palace 53 = .ok (.getfield 10, 3) := by decide +kernel
theorem dX8_palace_56 : decode cX8_palace 56 = .ok (.aload_n 1, 1) := by decide +kernel
theorem dX8_palace_57 : decode cX8_palace 57 = .ok (.putfield 81, 3) := by decide +kernel
theorem dX8_palace_60 : decode cX8_palace 60 = .ok (.aload_n 0, 1) := by decide +kernel
theorem dX8_palace_61 : decode cX8_palace 61 = .ok (.getfield 26, 3) := by decide +kernel
theorem dX8_palace_64 : decode cX8_palace 64 = .ok (.aload_n 0, 1) := by decide +kernel
theorem dX8_palace_65 : decode cX8_palace 65 = .ok (.getfield 19, 3) := by decide +kernel
theorem dX8_palace_68 : decode cX8_palace 68 = .ok (.invokevirtual 84, 3) := by decide +kernel
theorem dX8_palace_71 : decode cX8_palace 71 = .ok (.aload_n 0, 1) := by decide +kernel
theorem dX8_palace_72 : decode cX8_palace 72 = .ok (.getfield 33, 3) := by decide +kernel
theorem dX8_palace_75 : decode cX8_palace 75 = .ok (.invokevirtual 88, 3) := by decide +kernel
theorem dX8_palace_78 : decode cX8_palace 78 = .ok (.aload_n 0, 1) := by decide +kernel
theorem dX8_palace_79 : decode cX8_palace 79 = .ok (.getfield 46, 3) := by decide +kernel
theorem dX8_palace_82 : decode cX8_palace 82 = .ok (.iconst 0, 1) := by decide +kernel
theorem dX8_palace_83 : decode cX8_palace 83 = .ok (.putfield 91, 3) := by decide +kernel
theorem dX8_palace_86 : decode cX8_palace 86 = .ok (.iconst 0, 1) := by decide +kernel
theorem dX8_palace_87 : decode cX8_palace 87 = .ok (.istore_n 2, 1) := by decide +kernel
theorem dX8_palace_88 : decode cX8_palace 88 = .ok (.iload_n 2, 1) := by decide +kernel
theorem dX8_palace_89 : decode cX8_palace 89 = .ok (.iconst 2, 1) := by decide +kernel
theorem dX8_palace_90 : decode cX8_palace 90 = .ok (.if_icmp .ge 19, 3) := by decide +kernel
theorem dX8_palace_93 : decode cX8_palace 93 = .ok (.aload_n 0, 1) := by decide +kernel
theorem dX8_palace_94 : decode cX8_palace 94 = .ok (.getfield 39, 3) := by decide +kernel
theorem dX8_palace_97 : decode cX8_palace 97 = .ok (.iload_n 2, 1) := by decide +kernel
theorem dX8_palace_98 : decode cX8_palace 98 = .ok (.aaload, 1) := by decide +kernel
theorem dX8_palace_99 : decode cX8_palace 99 = .ok (.iconst 0, 1) := by decide +kernel
theorem dX8_palace_100 : decode cX8_palace 100 = .ok (.putfield 94, 3) := by decide +kernel
theorem dX8_palace_103 : decode cX8_palace 103 = .ok (.iinc 2 1, 3) := by decide +kernel
theorem dX8_palace_106 : decode cX8_palace 106 = .ok (.goto (-18), 3) := by decide +kernel
theorem dX8_palace_109 : decode cX8_palace 109 = .ok (.aload_n 0, 1) := by decide +kernel
theorem dX8_palace_110 : decode cX8_palace 110 = .ok (.getfield 19, 3) := by decide +kernel
theorem dX8_palace_113 : decode cX8_palace 113 = .ok (.getfield 98, 3) := by decide +kernel
theorem dX8_palace_116 : decode cX8_palace 116 = .ok (.ireturn, 1) := by decide +kernel
theorem dX8_fault_0 : decode cX8_fault 0 = .ok (.aload_n 0, 1) := by decide +kernel
theorem dX8_fault_1 : decode cX8_fault 1 = .ok (.getfield 10, 3) := by decide +kernel
theorem dX8_fault_4 : decode cX8_fault 4 = .ok (.getfield 101, 3) := by decide +kernel
theorem dX8_fault_7 : decode cX8_fault 7 = .ok (.ireturn, 1) := by decide +kernel
theorem dX8_told_0 : decode cX8_told 0 = .ok (.iload_n 1, 1) := by decide +kernel
theorem dX8_told_1 : decode cX8_told 1 = .ok (.tableswitch 253 0 15 #[79, 87, 95, 103, 111, 136, 144, 169, 180, 191, 202, 210, 218, 226, 237, 245], 79) := by decide +kernel
theorem dX8_told_80 : decode cX8_told 80 = .ok (.aload_n 0, 1) := by decide +kernel
theorem dX8_told_81 : decode cX8_told 81 = .ok (.getfield 19, 3) := by decide +kernel
theorem dX8_told_84 : decode cX8_told 84 = .ok (.getfield 98, 3) := by decide +kernel
theorem dX8_told_87 : decode cX8_told 87 = .ok (.ireturn, 1) := by decide +kernel
theorem dX8_told_88 : decode cX8_told 88 = .ok (.aload_n 0, 1) := by decide +kernel
theorem dX8_told_89 : decode cX8_told 89 = .ok (.getfield 19, 3) := by decide +kernel
theorem dX8_told_92 : decode cX8_told 92 = .ok (.getfield 104, 3) := by decide +kernel
theorem dX8_told_95 : decode cX8_told 95 = .ok (.ireturn, 1) := by decide +kernel
theorem dX8_told_96 : decode cX8_told 96 = .ok (.aload_n 0, 1) := by decide +kernel
theorem dX8_told_97 : decode cX8_told 97 = .ok (.getfield 19, 3) := by decide +kernel
theorem dX8_told_100 : decode cX8_told 100 = .ok (.getfield 107, 3) := by decide +kernel
theorem dX8_told_103 : decode cX8_told 103 = .ok (.ireturn, 1) := by decide +kernel
theorem dX8_told_104 : decode cX8_told 104 = .ok (.aload_n 0, 1) := by decide +kernel
theorem dX8_told_105 : decode cX8_told 105 = .ok (.getfield 10, 3) := by decide +kernel
theorem dX8_told_108 : decode cX8_told 108 = .ok (.getfield 66, 3) := by decide +kernel
theorem dX8_told_111 : decode cX8_told 111 = .ok (.ireturn, 1) := by decide +kernel
theorem dX8_told_112 : decode cX8_told 112 = .ok (.aload_n 0, 1) := by decide +kernel
theorem dX8_told_113 : decode cX8_told 113 = .ok (.getfield 19, 3) := by decide +kernel
theorem dX8_told_116 : decode cX8_told 116 = .ok (.getfield 110, 3) := by decide +kernel
theorem dX8_told_119 : decode cX8_told 119 = .ok (.ifCond .eq 16, 3) := by decide +kernel
theorem dX8_told_122 : decode cX8_told 122 = .ok (.aload_n 0, 1) := by decide +kernel
theorem dX8_told_123 : decode cX8_told 123 = .ok (.getfield 26, 3) := by decide +kernel
theorem dX8_told_126 : decode cX8_told 126 = .ok (.getfield 113, 3) := by decide +kernel
theorem dX8_told_129 : decode cX8_told 129 = .ok (.getfield 116, 3) := by decide +kernel
theorem dX8_told_132 : decode cX8_told 132 = .ok (.goto 4, 3) := by decide +kernel
theorem dX8_told_135 : decode cX8_told 135 = .ok (.iconst (-1), 1) := by decide +kernel
theorem dX8_told_136 : decode cX8_told 136 = .ok (.ireturn, 1) := by decide +kernel
theorem dX8_told_137 : decode cX8_told 137 = .ok (.aload_n 0, 1) := by decide +kernel
theorem dX8_told_138 : decode cX8_told 138 = .ok (.getfield 26, 3) := by decide +kernel
theorem dX8_told_141 : decode cX8_told 141 = .ok (.getfield 119, 3) := by decide +kernel
theorem dX8_told_144 : decode cX8_told 144 = .ok (.ireturn, 1) := by decide +kernel
theorem dX8_told_145 : decode cX8_told 145 = .ok (.aload_n 0, 1) := by decide +kernel
theorem dX8_told_146 : decode cX8_told 146 = .ok (.getfield 19, 3) := by decide +kernel
theorem dX8_told_149 : decode cX8_told 149 = .ok (.getfield 98, 3) := by decide +kernel
theorem dX8_told_152 : decode cX8_told 152 = .ok (.ifCond .le 16, 3) := by decide +kernel
theorem dX8_told_155 : decode cX8_told 155 = .ok (.aload_n 0, 1) := by decide +kernel
theorem dX8_told_156 : decode cX8_told 156 = .ok (.getfield 26, 3) := by decide +kernel
theorem dX8_told_159 : decode cX8_told 159 = .ok (.getfield 113, 3) := by decide +kernel
theorem dX8_told_162 : decode cX8_told 162 = .ok (.getfield 122, 3) := by decide +kernel
theorem dX8_told_165 : decode cX8_told 165 = .ok (.goto 4, 3) := by decide +kernel
theorem dX8_told_168 : decode cX8_told 168 = .ok (.iconst (-1), 1) := by decide +kernel
theorem dX8_told_169 : decode cX8_told 169 = .ok (.ireturn, 1) := by decide +kernel
theorem dX8_told_170 : decode cX8_told 170 = .ok (.aload_n 0, 1) := by decide +kernel
theorem dX8_told_171 : decode cX8_told 171 = .ok (.getfield 26, 3) := by decide +kernel
theorem dX8_told_174 : decode cX8_told 174 = .ok (.getfield 113, 3) := by decide +kernel
theorem dX8_told_177 : decode cX8_told 177 = .ok (.getfield 125, 3) := by decide +kernel
theorem dX8_told_180 : decode cX8_told 180 = .ok (.ireturn, 1) := by decide +kernel
theorem dX8_told_181 : decode cX8_told 181 = .ok (.aload_n 0, 1) := by decide +kernel
theorem dX8_told_182 : decode cX8_told 182 = .ok (.getfield 26, 3) := by decide +kernel
theorem dX8_told_185 : decode cX8_told 185 = .ok (.getfield 113, 3) := by decide +kernel
theorem dX8_told_188 : decode cX8_told 188 = .ok (.getfield 128, 3) := by decide +kernel
theorem dX8_told_191 : decode cX8_told 191 = .ok (.ireturn, 1) := by decide +kernel
theorem dX8_told_192 : decode cX8_told 192 = .ok (.aload_n 0, 1) := by decide +kernel
theorem dX8_told_193 : decode cX8_told 193 = .ok (.getfield 26, 3) := by decide +kernel
theorem dX8_told_196 : decode cX8_told 196 = .ok (.getfield 113, 3) := by decide +kernel
theorem dX8_told_199 : decode cX8_told 199 = .ok (.getfield 131, 3) := by decide +kernel
theorem dX8_told_202 : decode cX8_told 202 = .ok (.ireturn, 1) := by decide +kernel
theorem dX8_told_203 : decode cX8_told 203 = .ok (.aload_n 0, 1) := by decide +kernel
theorem dX8_told_204 : decode cX8_told 204 = .ok (.getfield 26, 3) := by decide +kernel
theorem dX8_told_207 : decode cX8_told 207 = .ok (.getfield 134, 3) := by decide +kernel
theorem dX8_told_210 : decode cX8_told 210 = .ok (.ireturn, 1) := by decide +kernel
theorem dX8_told_211 : decode cX8_told 211 = .ok (.aload_n 0, 1) := by decide +kernel
theorem dX8_told_212 : decode cX8_told 212 = .ok (.getfield 26, 3) := by decide +kernel
theorem dX8_told_215 : decode cX8_told 215 = .ok (.getfield 137, 3) := by decide +kernel
theorem dX8_told_218 : decode cX8_told 218 = .ok (.ireturn, 1) := by decide +kernel
theorem dX8_told_219 : decode cX8_told 219 = .ok (.aload_n 0, 1) := by decide +kernel
theorem dX8_told_220 : decode cX8_told 220 = .ok (.getfield 26, 3) := by decide +kernel
theorem dX8_told_223 : decode cX8_told 223 = .ok (.getfield 140, 3) := by decide +kernel
theorem dX8_told_226 : decode cX8_told 226 = .ok (.ireturn, 1) := by decide +kernel
theorem dX8_told_227 : decode cX8_told 227 = .ok (.aload_n 0, 1) := by decide +kernel
theorem dX8_told_228 : decode cX8_told 228 = .ok (.getfield 26, 3) := by decide +kernel
theorem dX8_told_231 : decode cX8_told 231 = .ok (.getfield 143, 3) := by decide +kernel
theorem dX8_told_234 : decode cX8_told 234 = .ok (.getfield 147, 3) := by decide +kernel
theorem dX8_told_237 : decode cX8_told 237 = .ok (.ireturn, 1) := by decide +kernel
theorem dX8_told_238 : decode cX8_told 238 = .ok (.aload_n 0, 1) := by decide +kernel
theorem dX8_told_239 : decode cX8_told 239 = .ok (.getfield 46, 3) := by decide +kernel
theorem dX8_told_242 : decode cX8_told 242 = .ok (.getfield 91, 3) := by decide +kernel
theorem dX8_told_245 : decode cX8_told 245 = .ok (.ireturn, 1) := by decide +kernel
theorem dX8_told_246 : decode cX8_told 246 = .ok (.aload_n 0, 1) := by decide +kernel
theorem dX8_told_247 : decode cX8_told 247 = .ok (.getfield 33, 3) := by decide +kernel
theorem dX8_told_250 : decode cX8_told 250 = .ok (.getfield 150, 3) := by decide +kernel
theorem dX8_told_253 : decode cX8_told 253 = .ok (.ireturn, 1) := by decide +kernel
theorem dX8_told_254 : decode cX8_told 254 = .ok (.ldc 65, 2) := by decide +kernel
theorem dX8_told_256 : decode cX8_told 256 = .ok (.ireturn, 1) := by decide +kernel
theorem dX8_room_0 : decode cX8_room 0 = .ok (.aload_n 0, 1) := by decide +kernel
theorem dX8_room_1 : decode cX8_room 1 = .ok (.iload_n 1, 1) := by decide +kernel
theorem dX8_room_2 : decode cX8_room 2 = .ok (.invokevirtual 151, 3) := by decide +kernel
theorem dX8_room_5 : decode cX8_room 5 = .ok (.ifCond .eq 6, 3) := by decide +kernel
theorem dX8_room_8 : decode cX8_room 8 = .ok (.ldc 155, 2) := by decide +kernel
theorem dX8_room_10 : decode cX8_room 10 = .ok (.ireturn, 1) := by decide +kernel
theorem dX8_room_11 : decode cX8_room 11 = .ok (.iload_n 2, 1) := by decide +kernel
theorem dX8_room_12 : decode cX8_room 12 = .ok (.tableswitch 101 0 4 #[36, 51, 61, 73, 86], 36) := by decide +kernel
theorem dX8_room_48 : decode cX8_room 48 = .ok (.aload_n 0, 1) := by decide +kernel
theorem dX8_room_49 : decode cX8_room 49 = .ok (.getfield 26, 3) := by decide +kernel
theorem dX8_room_52 : decode cX8_room 52 = .ok (.getfield 113, 3) := by decide +kernel
theorem dX8_room_55 : decode cX8_room 55 = .ok (.getfield 156, 3) := by decide +kernel
theorem dX8_room_58 : decode cX8_room 58 = .ok (.iload_n 1, 1) := by decide +kernel
theorem dX8_room_59 : decode cX8_room 59 = .ok (.invokestatic 159, 3) := by decide +kernel
theorem dX8_room_62 : decode cX8_room 62 = .ok (.ireturn, 1) := by decide +kernel
theorem dX8_room_63 : decode cX8_room 63 = .ok (.aload_n 0, 1) := by decide +kernel
theorem dX8_room_64 : decode cX8_room 64 = .ok (.getfield 26, 3) := by decide +kernel
theorem dX8_room_67 : decode cX8_room 67 = .ok (.getfield 163, 3) := by decide +kernel
theorem dX8_room_70 : decode cX8_room 70 = .ok (.iload_n 1, 1) := by decide +kernel
theorem dX8_room_71 : decode cX8_room 71 = .ok (.iaload, 1) := by decide +kernel
theorem dX8_room_72 : decode cX8_room 72 = .ok (.ireturn, 1) := by decide +kernel
theorem dX8_room_73 : decode cX8_room 73 = .ok (.aload_n 0, 1) := by decide +kernel
theorem dX8_room_74 : decode cX8_room 74 = .ok (.getfield 26, 3) := by decide +kernel
theorem dX8_room_77 : decode cX8_room 77 = .ok (.getfield 113, 3) := by decide +kernel
theorem dX8_room_80 : decode cX8_room 80 = .ok (.iload_n 1, 1) := by decide +kernel
theorem dX8_room_81 : decode cX8_room 81 = .ok (.invokevirtual 166, 3) := by decide +kernel
theorem dX8_room_84 : decode cX8_room 84 = .ok (.ireturn, 1) := by decide +kernel
theorem dX8_room_85 : decode cX8_room 85 = .ok (.aload_n 0, 1) := by decide +kernel
theorem dX8_room_86 : decode cX8_room 86 = .ok (.getfield 26, 3) := by decide +kernel
theorem dX8_room_89 : decode cX8_room 89 = .ok (.getfield 113, 3) := by decide +kernel
theorem dX8_room_92 : decode cX8_room 92 = .ok (.getfield 170, 3) := by decide +kernel
theorem dX8_room_95 : decode cX8_room 95 = .ok (.iload_n 1, 1) := by decide +kernel
theorem dX8_room_96 : decode cX8_room 96 = .ok (.iaload, 1) := by decide +kernel
theorem dX8_room_97 : decode cX8_room 97 = .ok (.ireturn, 1) := by decide +kernel
theorem dX8_room_98 : decode cX8_room 98 = .ok (.aload_n 0, 1) := by decide +kernel
theorem dX8_room_99 : decode cX8_room 99 = .ok (.getfield 26, 3) := by decide +kernel
theorem dX8_room_102 : decode cX8_room 102 = .ok (.getfield 113, 3) := by decide +kernel
theorem dX8_room_105 : decode cX8_room 105 = .ok (.getfield 131, 3) := by decide +kernel
theorem dX8_room_108 : decode cX8_room 108 = .ok (.iload_n 1, 1) := by decide +kernel
theorem dX8_room_109 : decode cX8_room 109 = .ok (.invokestatic 173, 3) := by decide +kernel
theorem dX8_room_112 : decode cX8_room 112 = .ok (.ireturn, 1) := by decide +kernel
theorem dX8_room_113 : decode cX8_room 113 = .ok (.ldc 65, 2) := by decide +kernel
theorem dX8_room_115 : decode cX8_room 115 = .ok (.ireturn, 1) := by decide +kernel
theorem dX8_petition_0 : decode cX8_petition 0 = .ok (.aload_n 0, 1) := by decide +kernel
theorem dX8_petition_1 : decode cX8_petition 1 = .ok (.iload_n 1, 1) := by decide +kernel
theorem dX8_petition_2 : decode cX8_petition 2 = .ok (.invokevirtual 176, 3) := by decide +kernel
theorem dX8_petition_5 : decode cX8_petition 5 = .ok (.ifCond .eq 6, 3) := by decide +kernel
theorem dX8_petition_8 : decode cX8_petition 8 = .ok (.ldc 155, 2) := by decide +kernel
theorem dX8_petition_10 : decode cX8_petition 10 = .ok (.ireturn, 1) := by decide +kernel
theorem dX8_petition_11 : decode cX8_petition 11 = .ok (.iload_n 2, 1) := by decide +kernel
theorem dX8_petition_12 : decode cX8_petition 12 = .ok (.tableswitch 60 0 2 #[28, 38, 48], 28) := by decide +kernel
theorem dX8_petition_40 : decode cX8_petition 40 = .ok (.aload_n 0, 1) := by decide +kernel
theorem dX8_petition_41 : decode cX8_petition 41 = .ok (.getfield 26, 3) := by decide +kernel
theorem dX8_petition_44 : decode cX8_petition 44 = .ok (.getfield 179, 3) := by decide +kernel
theorem dX8_petition_47 : decode cX8_petition 47 = .ok (.iload_n 1, 1) := by decide +kernel
theorem dX8_petition_48 : decode cX8_petition 48 = .ok (.iaload, 1) := by decide +kernel
theorem dX8_petition_49 : decode cX8_petition 49 = .ok (.ireturn, 1) := by decide +kernel
theorem dX8_petition_50 : decode cX8_petition 50 = .ok (.aload_n 0, 1) := by decide +kernel
theorem dX8_petition_51 : decode cX8_petition 51 = .ok (.getfield 19, 3) := by decide +kernel
theorem dX8_petition_54 : decode cX8_petition 54 = .ok (.getfield 182, 3) := by decide +kernel
theorem dX8_petition_57 : decode cX8_petition 57 = .ok (.iload_n 1, 1) := by decide +kernel
theorem dX8_petition_58 : decode cX8_petition 58 = .ok (.iaload, 1) := by decide +kernel
theorem dX8_petition_59 : decode cX8_petition 59 = .ok (.ireturn, 1) := by decide +kernel
theorem dX8_petition_60 : decode cX8_petition 60 = .ok (.aload_n 0, 1) := by decide +kernel
theorem dX8_petition_61 : decode cX8_petition 61 = .ok (.getfield 26, 3) := by decide +kernel
theorem dX8_petition_64 : decode cX8_petition 64 = .ok (.getfield 137, 3) := by decide +kernel
theorem dX8_petition_67 : decode cX8_petition 67 = .ok (.iload_n 1, 1) := by decide +kernel
theorem dX8_petition_68 : decode cX8_petition 68 = .ok (.invokestatic 173, 3) := by decide +kernel
theorem dX8_petition_71 : decode cX8_petition 71 = .ok (.ireturn, 1) := by decide +kernel
theorem dX8_petition_72 : decode cX8_petition 72 = .ok (.ldc 65, 2) := by decide +kernel
theorem dX8_petition_74 : decode cX8_petition 74 = .ok (.ireturn, 1) := by decide +kernel
theorem dX8_went_0 : decode cX8_went 0 = .ok (.iload_n 1, 1) := by decide +kernel
theorem dX8_went_1 : decode cX8_went 1 = .ok (.ifCond .lt 17, 3) := by decide +kernel
theorem dX8_went_4 : decode cX8_went 4 = .ok (.iload_n 1, 1) := by decide +kernel
theorem dX8_went_5 : decode cX8_went 5 = .ok (.aload_n 0, 1) := by decide +kernel
theorem dX8_went_6 : decode cX8_went 6 = .ok (.getfield 26, 3) := by decide +kernel
theorem dX8_went_9 : decode cX8_went 9 = .ok (.getfield 143, 3) := by decide +kernel
theorem dX8_went_12 : decode cX8_went 12 = .ok (.getfield 147, 3) := by decide +kernel
theorem dX8_went_15 : decode cX8_went 15 = .ok (.if_icmp .lt 5, 3) := by decide +kernel
theorem dX8_went_18 : decode cX8_went 18 = .ok (.iconst (-1), 1) := by decide +kernel
theorem dX8_went_19 : decode cX8_went 19 = .ok (.ireturn, 1) := by decide +kernel
theorem dX8_went_20 : decode cX8_went 20 = .ok (.aload_n 0, 1) := by decide +kernel
theorem dX8_went_21 : decode cX8_went 21 = .ok (.getfield 26, 3) := by decide +kernel
theorem dX8_went_24 : decode cX8_went 24 = .ok (.getfield 143, 3) := by decide +kernel
theorem dX8_went_27 : decode cX8_went 27 = .ok (.iload_n 1, 1) := by decide +kernel
theorem dX8_went_28 : decode cX8_went 28 = .ok (.invokevirtual 185, 3) := by decide +kernel
theorem dX8_went_31 : decode cX8_went 31 = .ok (.ireturn, 1) := by decide +kernel
theorem dX8_hour_0 : decode cX8_hour 0 = .ok (.aload_n 0, 1) := by decide +kernel
theorem dX8_hour_1 : decode cX8_hour 1 = .ok (.iload_n 1, 1) := by decide +kernel
theorem dX8_hour_2 : decode cX8_hour 2 = .ok (.invokevirtual 188, 3) := by decide +kernel
theorem dX8_hour_5 : decode cX8_hour 5 = .ok (.istore_n 2, 1) := by decide +kernel
theorem dX8_hour_6 : decode cX8_hour 6 = .ok (.iload_n 2, 1) := by decide +kernel
theorem dX8_hour_7 : decode cX8_hour 7 = .ok (.ifCond .eq 5, 3) := by decide +kernel
theorem dX8_hour_10 : decode cX8_hour 10 = .ok (.iload_n 2, 1) := by decide +kernel
theorem dX8_hour_11 : decode cX8_hour 11 = .ok (.ireturn, 1) := by decide +kernel
theorem dX8_hour_12 : decode cX8_hour 12 = .ok (.aload_n 0, 1) := by decide +kernel
theorem dX8_hour_13 : decode cX8_hour 13 = .ok (.getfield 33, 3) := by decide +kernel
theorem dX8_hour_16 : decode cX8_hour 16 = .ok (.aload_n 0, 1) := by decide +kernel
theorem dX8_hour_17 : decode cX8_hour 17 = .ok (.getfield 26, 3) := by decide +kernel
theorem dX8_hour_20 : decode cX8_hour 20 = .ok (.invokevirtual 191, 3) := by decide +kernel
theorem dX8_hour_23 : decode cX8_hour 23 = .ok (.iconst 0, 1) := by decide +kernel
theorem dX8_hour_24 : decode cX8_hour 24 = .ok (.istore_n 3, 1) := by decide +kernel
theorem dX8_hour_25 : decode cX8_hour 25 = .ok (.iload_n 3, 1) := by decide +kernel
theorem dX8_hour_26 : decode cX8_hour 26 = .ok (.iload_n 1, 1) := by decide +kernel
theorem dX8_hour_27 : decode cX8_hour 27 = .ok (.if_icmp .ge 20, 3) := by decide +kernel
theorem dX8_hour_30 : decode cX8_hour 30 = .ok (.aload_n 0, 1) := by decide +kernel
theorem dX8_hour_31 : decode cX8_hour 31 = .ok (.getfield 26, 3) := by decide +kernel
theorem dX8_hour_34 : decode cX8_hour 34 = .ok (.aload_n 0, 1) := by decide +kernel
theorem dX8_hour_35 : decode cX8_hour 35 = .ok (.getfield 19, 3) := by decide +kernel
theorem dX8_hour_38 : decode cX8_hour 38 = .ok (.invokevirtual 195, 3) := by decide +kernel
theorem dX8_hour_41 : decode cX8_hour 41 = .ok (.iinc 3 1, 3) := by decide +kernel
theorem dX8_hour_44 : decode cX8_hour 44 = .ok (.goto (-19), 3) := by decide +kernel
theorem dX8_hour_47 : decode cX8_hour 47 = .ok (.aload_n 0, 1) := by decide +kernel
theorem dX8_hour_48 : decode cX8_hour 48 = .ok (.getfield 26, 3) := by decide +kernel
theorem dX8_hour_51 : decode cX8_hour 51 = .ok (.getfield 113, 3) := by decide +kernel
theorem dX8_hour_54 : decode cX8_hour 54 = .ok (.getfield 122, 3) := by decide +kernel
theorem dX8_hour_57 : decode cX8_hour 57 = .ok (.ireturn, 1) := by decide +kernel
theorem dX8_carpet_0 : decode cX8_carpet 0 = .ok (.aload_n 0, 1) := by decide +kernel
theorem dX8_carpet_1 : decode cX8_carpet 1 = .ok (.iload_n 1, 1) := by decide +kernel
theorem dX8_carpet_2 : decode cX8_carpet 2 = .ok (.invokevirtual 151, 3) := by decide +kernel
theorem dX8_carpet_5 : decode cX8_carpet 5 = .ok (.ifCond .eq 6, 3) := by decide +kernel
theorem dX8_carpet_8 : decode cX8_carpet 8 = .ok (.ldc 155, 2) := by decide +kernel
theorem dX8_carpet_10 : decode cX8_carpet 10 = .ok (.ireturn, 1) := by decide +kernel
theorem dX8_carpet_11 : decode cX8_carpet 11 = .ok (.aload_n 0, 1) := by decide +kernel
theorem dX8_carpet_12 : decode cX8_carpet 12 = .ok (.getfield 33, 3) := by decide +kernel
theorem dX8_carpet_15 : decode cX8_carpet 15 = .ok (.aload_n 0, 1) := by decide +kernel
theorem dX8_carpet_16 : decode cX8_carpet 16 = .ok (.getfield 26, 3) := by decide +kernel
theorem dX8_carpet_19 : decode cX8_carpet 19 = .ok (.invokevirtual 191, 3) := by decide +kernel
theorem dX8_carpet_22 : decode cX8_carpet 22 = .ok (.aload_n 0, 1) := by decide +kernel
theorem dX8_carpet_23 : decode cX8_carpet 23 = .ok (.getfield 26, 3) := by decide +kernel
theorem dX8_carpet_26 : decode cX8_carpet 26 = .ok (.getfield 113, 3) := by decide +kernel
theorem dX8_carpet_29 : decode cX8_carpet 29 = .ok (.getfield 128, 3) := by decide +kernel
theorem dX8_carpet_32 : decode cX8_carpet 32 = .ok (.iload_n 1, 1) := by decide +kernel
theorem dX8_carpet_33 : decode cX8_carpet 33 = .ok (.invokestatic 173, 3) := by decide +kernel
theorem dX8_carpet_36 : decode cX8_carpet 36 = .ok (.istore_n 3, 1) := by decide +kernel
theorem dX8_carpet_37 : decode cX8_carpet 37 = .ok (.aload_n 0, 1) := by decide +kernel
theorem dX8_carpet_38 : decode cX8_carpet 38 = .ok (.getfield 26, 3) := by decide +kernel
theorem dX8_carpet_41 : decode cX8_carpet 41 = .ok (.getfield 113, 3) := by decide +kernel
theorem dX8_carpet_44 : decode cX8_carpet 44 = .ok (.aload_n 0, 1) := by decide +kernel
theorem dX8_carpet_45 : decode cX8_carpet 45 = .ok (.getfield 26, 3) := by decide +kernel
theorem dX8_carpet_48 : decode cX8_carpet 48 = .ok (.getfield 113, 3) := by decide +kernel
theorem dX8_carpet_51 : decode cX8_carpet 51 = .ok (.getfield 128, 3) := by decide +kernel
theorem dX8_carpet_54 : decode cX8_carpet 54 = .ok (.iload_n 1, 1) := by decide +kernel
theorem dX8_carpet_55 : decode cX8_carpet 55 = .ok (.iload_n 2, 1) := by decide +kernel
theorem dX8_carpet_56 : decode cX8_carpet 56 = .ok (.invokestatic 198, 3) := by decide +kernel
theorem dX8_carpet_59 : decode cX8_carpet 59 = .ok (.putfield 128, 3) := by decide +kernel
theorem dX8_carpet_62 : decode cX8_carpet 62 = .ok (.iload_n 3, 1) := by decide +kernel
theorem dX8_carpet_63 : decode cX8_carpet 63 = .ok (.ireturn, 1) := by decide +kernel
theorem dX8_noise_0 : decode cX8_noise 0 = .ok (.aload_n 0, 1) := by decide +kernel
theorem dX8_noise_1 : decode cX8_noise 1 = .ok (.iload_n 1, 1) := by decide +kernel
theorem dX8_noise_2 : decode cX8_noise 2 = .ok (.invokevirtual 151, 3) := by decide +kernel
theorem dX8_noise_5 : decode cX8_noise 5 = .ok (.ifCond .eq 6, 3) := by decide +kernel
theorem dX8_noise_8 : decode cX8_noise 8 = .ok (.ldc 155, 2) := by decide +kernel
theorem dX8_noise_10 : decode cX8_noise 10 = .ok (.ireturn, 1) := by decide +kernel
theorem dX8_noise_11 : decode cX8_noise 11 = .ok (.iload_n 2, 1) := by decide +kernel
theorem dX8_noise_12 : decode cX8_noise 12 = .ok (.ifCond .lt 9, 3) := by decide +kernel
theorem dX8_noise_15 : decode cX8_noise 15 = .ok (.iload_n 2, 1) := by decide +kernel
theorem dX8_noise_16 : decode cX8_noise 16 = .ok (.bipush 9, 2) := by decide +kernel
theorem dX8_noise_18 : decode cX8_noise 18 = .ok (.if_icmp .le 6, 3) := by decide +kernel
theorem dX8_noise_21 : decode cX8_noise 21 = .ok (.ldc 65, 2) := by decide +kernel
theorem dX8_noise_23 : decode cX8_noise 23 = .ok (.ireturn, 1) := by decide +kernel
theorem dX8_noise_24 : decode cX8_noise 24 = .ok (.aload_n 0, 1) := by decide +kernel
theorem dX8_noise_25 : decode cX8_noise 25 = .ok (.getfield 33, 3) := by decide +kernel
theorem dX8_noise_28 : decode cX8_noise 28 = .ok (.aload_n 0, 1) := by decide +kernel
theorem dX8_noise_29 : decode cX8_noise 29 = .ok (.getfield 26, 3) := by decide +kernel
theorem dX8_noise_32 : decode cX8_noise 32 = .ok (.invokevirtual 191, 3) := by decide +kernel
theorem dX8_noise_35 : decode cX8_noise 35 = .ok (.aload_n 0, 1) := by decide +kernel
theorem dX8_noise_36 : decode cX8_noise 36 = .ok (.getfield 26, 3) := by decide +kernel
theorem dX8_noise_39 : decode cX8_noise 39 = .ok (.getfield 113, 3) := by decide +kernel
theorem dX8_noise_42 : decode cX8_noise 42 = .ok (.getfield 156, 3) := by decide +kernel
theorem dX8_noise_45 : decode cX8_noise 45 = .ok (.iload_n 1, 1) := by decide +kernel
theorem dX8_noise_46 : decode cX8_noise 46 = .ok (.invokestatic 159, 3) := by decide +kernel
theorem dX8_noise_49 : decode cX8_noise 49 = .ok (.istore_n 3, 1) := by decide +kernel
theorem dX8_noise_50 : decode cX8_noise 50 = .ok (.aload_n 0, 1) := by decide +kernel
theorem dX8_noise_51 : decode cX8_noise 51 = .ok (.getfield 26, 3) := by decide +kernel
theorem dX8_noise_54 : decode cX8_noise 54 = .ok (.getfield 113, 3) := by decide +kernel
theorem dX8_noise_57 : decode cX8_noise 57 = .ok (.aload_n 0, 1) := by decide +kernel
theorem dX8_noise_58 : decode cX8_noise 58 = .ok (.getfield 26, 3) := by decide +kernel
theorem dX8_noise_61 : decode cX8_noise 61 = .ok (.getfield 113, 3) := by decide +kernel
theorem dX8_noise_64 : decode cX8_noise 64 = .ok (.getfield 156, 3) := by decide +kernel
theorem dX8_noise_67 : decode cX8_noise 67 = .ok (.iload_n 1, 1) := by decide +kernel
theorem dX8_noise_68 : decode cX8_noise 68 = .ok (.iload_n 2, 1) := by decide +kernel
theorem dX8_noise_69 : decode cX8_noise 69 = .ok (.invokestatic 202, 3) := by decide +kernel
theorem dX8_noise_72 : decode cX8_noise 72 = .ok (.putfield 156, 3) := by decide +kernel
theorem dX8_noise_75 : decode cX8_noise 75 = .ok (.iload_n 3, 1) := by decide +kernel
theorem dX8_noise_76 : decode cX8_noise 76 = .ok (.ireturn, 1) := by decide +kernel
theorem dX8_nail_0 : decode cX8_nail 0 = .ok (.aload_n 0, 1) := by decide +kernel
theorem dX8_nail_1 : decode cX8_nail 1 = .ok (.iload_n 1, 1) := by decide +kernel
theorem dX8_nail_2 : decode cX8_nail 2 = .ok (.invokevirtual 151, 3) := by decide +kernel
theorem dX8_nail_5 : decode cX8_nail 5 = .ok (.ifCond .eq 6, 3) := by decide +kernel
theorem dX8_nail_8 : decode cX8_nail 8 = .ok (.ldc 155, 2) := by decide +kernel
theorem dX8_nail_10 : decode cX8_nail 10 = .ok (.ireturn, 1) := by decide +kernel
theorem dX8_nail_11 : decode cX8_nail 11 = .ok (.aload_n 0, 1) := by decide +kernel
theorem dX8_nail_12 : decode cX8_nail 12 = .ok (.getfield 33, 3) := by decide +kernel
theorem dX8_nail_15 : decode cX8_nail 15 = .ok (.aload_n 0, 1) := by decide +kernel
theorem dX8_nail_16 : decode cX8_nail 16 = .ok (.getfield 26, 3) := by decide +kernel
theorem dX8_nail_19 : decode cX8_nail 19 = .ok (.invokevirtual 191, 3) := by decide +kernel
theorem dX8_nail_22 : decode cX8_nail 22 = .ok (.aload_n 0, 1) := by decide +kernel
theorem dX8_nail_23 : decode cX8_nail 23 = .ok (.getfield 26, 3) := by decide +kernel
theorem dX8_nail_26 : decode cX8_nail 26 = .ok (.getfield 113, 3) := by decide +kernel
theorem dX8_nail_29 : decode cX8_nail 29 = .ok (.getfield 131, 3) := by decide +kernel
theorem dX8_nail_32 : decode cX8_nail 32 = .ok (.iload_n 1, 1) := by decide +kernel
theorem dX8_nail_33 : decode cX8_nail 33 = .ok (.invokestatic 173, 3) := by decide +kernel
theorem dX8_nail_36 : decode cX8_nail 36 = .ok (.istore_n 3, 1) := by decide +kernel
theorem dX8_nail_37 : decode cX8_nail 37 = .ok (.aload_n 0, 1) := by decide +kernel
theorem dX8_nail_38 : decode cX8_nail 38 = .ok (.getfield 26, 3) := by decide +kernel
theorem dX8_nail_41 : decode cX8_nail 41 = .ok (.getfield 113, 3) := by decide +kernel
theorem dX8_nail_44 : decode cX8_nail 44 = .ok (.aload_n 0, 1) := by decide +kernel
theorem dX8_nail_45 : decode cX8_nail 45 = .ok (.getfield 26, 3) := by decide +kernel
theorem dX8_nail_48 : decode cX8_nail 48 = .ok (.getfield 113, 3) := by decide +kernel
theorem dX8_nail_51 : decode cX8_nail 51 = .ok (.getfield 131, 3) := by decide +kernel
theorem dX8_nail_54 : decode cX8_nail 54 = .ok (.iload_n 1, 1) := by decide +kernel
theorem dX8_nail_55 : decode cX8_nail 55 = .ok (.iload_n 2, 1) := by decide +kernel
theorem dX8_nail_56 : decode cX8_nail 56 = .ok (.invokestatic 198, 3) := by decide +kernel
theorem dX8_nail_59 : decode cX8_nail 59 = .ok (.putfield 131, 3) := by decide +kernel
theorem dX8_nail_62 : decode cX8_nail 62 = .ok (.iload_n 3, 1) := by decide +kernel
theorem dX8_nail_63 : decode cX8_nail 63 = .ok (.ireturn, 1) := by decide +kernel
theorem dX8_brick_0 : decode cX8_brick 0 = .ok (.iload_n 1, 1) := by decide +kernel
theorem dX8_brick_1 : decode cX8_brick 1 = .ok (.ifCond .lt 14, 3) := by decide +kernel
theorem dX8_brick_4 : decode cX8_brick 4 = .ok (.iload_n 1, 1) := by decide +kernel
theorem dX8_brick_5 : decode cX8_brick 5 = .ok (.aload_n 0, 1) := by decide +kernel
theorem dX8_brick_6 : decode cX8_brick 6 = .ok (.getfield 19, 3) := by decide +kernel
theorem dX8_brick_9 : decode cX8_brick 9 = .ok (.getfield 104, 3) := by decide +kernel
theorem dX8_brick_12 : decode cX8_brick 12 = .ok (.if_icmp .lt 6, 3) := by decide +kernel
theorem dX8_brick_15 : decode cX8_brick 15 = .ok (.ldc 155, 2) := by decide +kernel
theorem dX8_brick_17 : decode cX8_brick 17 = .ok (.ireturn, 1) := by decide +kernel
theorem dX8_brick_18 : decode cX8_brick 18 = .ok (.aload_n 0, 1) := by decide +kernel
theorem dX8_brick_19 : decode cX8_brick 19 = .ok (.getfield 33, 3) := by decide +kernel
theorem dX8_brick_22 : decode cX8_brick 22 = .ok (.aload_n 0, 1) := by decide +kernel
theorem dX8_brick_23 : decode cX8_brick 23 = .ok (.getfield 26, 3) := by decide +kernel
theorem dX8_brick_26 : decode cX8_brick 26 = .ok (.invokevirtual 191, 3) := by decide +kernel
theorem dX8_brick_29 : decode cX8_brick 29 = .ok (.aload_n 0, 1) := by decide +kernel
theorem dX8_brick_30 : decode cX8_brick 30 = .ok (.getfield 26, 3) := by decide +kernel
theorem dX8_brick_33 : decode cX8_brick 33 = .ok (.getfield 134, 3) := by decide +kernel
theorem dX8_brick_36 : decode cX8_brick 36 = .ok (.iload_n 1, 1) := by decide +kernel
theorem dX8_brick_37 : decode cX8_brick 37 = .ok (.invokestatic 173, 3) := by decide +kernel
theorem dX8_brick_40 : decode cX8_brick 40 = .ok (.istore_n 3, 1) := by decide +kernel
theorem dX8_brick_41 : decode cX8_brick 41 = .ok (.aload_n 0, 1) := by decide +kernel
theorem dX8_brick_42 : decode cX8_brick 42 = .ok (.getfield 26, 3) := by decide +kernel
theorem dX8_brick_45 : decode cX8_brick 45 = .ok (.aload_n 0, 1) := by decide +kernel
theorem dX8_brick_46 : decode cX8_brick 46 = .ok (.getfield 26, 3) := by decide +kernel
theorem dX8_brick_49 : decode cX8_brick 49 = .ok (.getfield 134, 3) := by decide +kernel
theorem dX8_brick_52 : decode cX8_brick 52 = .ok (.iload_n 1, 1) := by decide +kernel
theorem dX8_brick_53 : decode cX8_brick 53 = .ok (.iload_n 2, 1) := by decide +kernel
theorem dX8_brick_54 : decode cX8_brick 54 = .ok (.invokestatic 198, 3) := by decide +kernel
theorem dX8_brick_57 : decode cX8_brick 57 = .ok (.putfield 134, 3) := by decide +kernel
theorem dX8_brick_60 : decode cX8_brick 60 = .ok (.aload_n 0, 1) := by decide +kernel
theorem dX8_brick_61 : decode cX8_brick 61 = .ok (.getfield 26, 3) := by decide +kernel
theorem dX8_brick_64 : decode cX8_brick 64 = .ok (.getfield 113, 3) := by decide +kernel
theorem dX8_brick_67 : decode cX8_brick 67 = .ok (.aload_n 0, 1) := by decide +kernel
theorem dX8_brick_68 : decode cX8_brick 68 = .ok (.getfield 19, 3) := by decide +kernel
theorem dX8_brick_71 : decode cX8_brick 71 = .ok (.getfield 206, 3) := by decide +kernel
theorem dX8_brick_74 : decode cX8_brick 74 = .ok (.iload_n 1, 1) := by decide +kernel
theorem dX8_brick_75 : decode cX8_brick 75 = .ok (.iaload, 1) := by decide +kernel
theorem dX8_brick_76 : decode cX8_brick 76 = .ok (.aload_n 0, 1) := by decide +kernel
theorem dX8_brick_77 : decode cX8_brick 77 = .ok (.getfield 19, 3) := by decide +kernel
theorem dX8_brick_80 : decode cX8_brick 80 = .ok (.getfield 209, 3) := by decide +kernel
theorem dX8_brick_83 : decode cX8_brick 83 = .ok (.iload_n 1, 1) := by decide +kernel
theorem dX8_brick_84 : decode cX8_brick 84 = .ok (.iaload, 1) := by decide +kernel
theorem dX8_brick_85 : decode cX8_brick 85 = .ok (.iload_n 2, 1) := by decide +kernel
theorem dX8_brick_86 : decode cX8_brick 86 = .ok (.ifCond .ne 7, 3) := by decide +kernel
theorem dX8_brick_89 : decode cX8_brick 89 = .ok (.iconst 1, 1) := by decide +kernel
theorem dX8_brick_90 : decode cX8_brick 90 = .ok (.goto 4, 3) := by decide +kernel
theorem dX8_brick_93 : decode cX8_brick 93 = .ok (.iconst 0, 1) := by decide +kernel
theorem dX8_brick_94 : decode cX8_brick 94 = .ok (.invokevirtual 212, 3) := by decide +kernel
theorem dX8_brick_97 : decode cX8_brick 97 = .ok (.iload_n 3, 1) := by decide +kernel
theorem dX8_brick_98 : decode cX8_brick 98 = .ok (.ireturn, 1) := by decide +kernel
theorem dX8_chalk_0 : decode cX8_chalk 0 = .ok (.aload_n 0, 1) := by decide +kernel
theorem dX8_chalk_1 : decode cX8_chalk 1 = .ok (.iload_n 1, 1) := by decide +kernel
theorem dX8_chalk_2 : decode cX8_chalk 2 = .ok (.invokevirtual 176, 3) := by decide +kernel
theorem dX8_chalk_5 : decode cX8_chalk 5 = .ok (.ifCond .ne 11, 3) := by decide +kernel
theorem dX8_chalk_8 : decode cX8_chalk 8 = .ok (.aload_n 0, 1) := by decide +kernel
theorem dX8_chalk_9 : decode cX8_chalk 9 = .ok (.iload_n 2, 1) := by decide +kernel
theorem dX8_chalk_10 : decode cX8_chalk 10 = .ok (.invokevirtual 151, 3) := by decide +kernel
theorem dX8_chalk_13 : decode cX8_chalk 13 = .ok (.ifCond .eq 6, 3) := by decide +kernel
theorem dX8_chalk_16 : decode cX8_chalk 16 = .ok (.ldc 155, 2) := by decide +kernel
theorem dX8_chalk_18 : decode cX8_chalk 18 = .ok (.ireturn, 1) := by decide +kernel
theorem dX8_chalk_19 : decode cX8_chalk 19 = .ok (.aload_n 0, 1) := by decide +kernel
theorem dX8_chalk_20 : decode cX8_chalk 20 = .ok (.getfield 33, 3) := by decide +kernel
theorem dX8_chalk_23 : decode cX8_chalk 23 = .ok (.aload_n 0, 1) := by decide +kernel
theorem dX8_chalk_24 : decode cX8_chalk 24 = .ok (.getfield 26, 3) := by decide +kernel
theorem dX8_chalk_27 : decode cX8_chalk 27 = .ok (.invokevirtual 191, 3) := by decide +kernel
theorem dX8_chalk_30 : decode cX8_chalk 30 = .ok (.aload_n 0, 1) := by decide +kernel
theorem dX8_chalk_31 : decode cX8_chalk 31 = .ok (.getfield 26, 3) := by decide +kernel
theorem dX8_chalk_34 : decode cX8_chalk 34 = .ok (.getfield 179, 3) := by decide +kernel
theorem dX8_chalk_37 : decode cX8_chalk 37 = .ok (.iload_n 1, 1) := by decide +kernel
theorem dX8_chalk_38 : decode cX8_chalk 38 = .ok (.iaload, 1) := by decide +kernel
theorem dX8_chalk_39 : decode cX8_chalk 39 = .ok (.istore_n 3, 1) := by decide +kernel
theorem dX8_chalk_40 : decode cX8_chalk 40 = .ok (.aload_n 0, 1) := by decide +kernel
theorem dX8_chalk_41 : decode cX8_chalk 41 = .ok (.getfield 26, 3) := by decide +kernel
theorem dX8_chalk_44 : decode cX8_chalk 44 = .ok (.getfield 179, 3) := by decide +kernel
theorem dX8_chalk_47 : decode cX8_chalk 47 = .ok (.iload_n 1, 1) := by decide +kernel
theorem dX8_chalk_48 : decode cX8_chalk 48 = .ok (.iload_n 2, 1) := by decide +kernel
theorem dX8_chalk_49 : decode cX8_chalk 49 = .ok (.iastore, 1) := by decide +kernel
theorem dX8_chalk_50 : decode cX8_chalk 50 = .ok (.aload_n 0, 1) := by decide +kernel
theorem dX8_chalk_51 : decode cX8_chalk 51 = .ok (.getfield 26, 3) := by decide +kernel
theorem dX8_chalk_54 : decode cX8_chalk 54 = .ok (.aload_n 0, 1) := by decide +kernel
theorem dX8_chalk_55 : decode cX8_chalk 55 = .ok (.getfield 26, 3) := by decide +kernel
theorem dX8_chalk_58 : decode cX8_chalk 58 = .ok (.getfield 137, 3) := by decide +kernel
theorem dX8_chalk_61 : decode cX8_chalk 61 = .ok (.iload_n 1, 1) := by decide +kernel
theorem dX8_chalk_62 : decode cX8_chalk 62 = .ok (.iconst 0, 1) := by decide +kernel
theorem dX8_chalk_63 : decode cX8_chalk 63 = .ok (.invokestatic 198, 3) := by decide +kernel
theorem dX8_chalk_66 : decode cX8_chalk 66 = .ok (.putfield 137, 3) := by decide +kernel
theorem dX8_chalk_69 : decode cX8_chalk 69 = .ok (.iload_n 3, 1) := by decide +kernel
theorem dX8_chalk_70 : decode cX8_chalk 70 = .ok (.ireturn, 1) := by decide +kernel
theorem dX8_sole_0 : decode cX8_sole 0 = .ok (.aload_n 0, 1) := by decide +kernel
theorem dX8_sole_1 : decode cX8_sole 1 = .ok (.getfield 19, 3) := by decide +kernel
theorem dX8_sole_4 : decode cX8_sole 4 = .ok (.getfield 110, 3) := by decide +kernel
theorem dX8_sole_7 : decode cX8_sole 7 = .ok (.ifCond .ne 6, 3) := by decide +kernel
theorem dX8_sole_10 : decode cX8_sole 10 = .ok (.ldc 216, 2) := by decide +kernel
theorem dX8_sole_12 : decode cX8_sole 12 = .ok (.ireturn, 1) := by decide +kernel
theorem dX8_sole_13 : decode cX8_sole 13 = .ok (.aload_n 0, 1) := by decide +kernel
theorem dX8_sole_14 : decode cX8_sole 14 = .ok (.getfield 33, 3) := by decide +kernel
theorem dX8_sole_17 : decode cX8_sole 17 = .ok (.aload_n 0, 1) := by decide +kernel
theorem dX8_sole_18 : decode cX8_sole 18 = .ok (.getfield 26, 3) := by decide +kernel
theorem dX8_sole_21 : decode cX8_sole 21 = .ok (.invokevirtual 191, 3) := by decide +kernel
theorem dX8_sole_24 : decode cX8_sole 24 = .ok (.aload_n 0, 1) := by decide +kernel
theorem dX8_sole_25 : decode cX8_sole 25 = .ok (.getfield 26, 3) := by decide +kernel
theorem dX8_sole_28 : decode cX8_sole 28 = .ok (.getfield 113, 3) := by decide +kernel
theorem dX8_sole_31 : decode cX8_sole 31 = .ok (.getfield 125, 3) := by decide +kernel
theorem dX8_sole_34 : decode cX8_sole 34 = .ok (.istore_n 1, 1) := by decide +kernel
theorem dX8_sole_35 : decode cX8_sole 35 = .ok (.aload_n 0, 1) := by decide +kernel
theorem dX8_sole_36 : decode cX8_sole 36 = .ok (.getfield 26, 3) := by decide +kernel
theorem dX8_sole_39 : decode cX8_sole 39 = .ok (.getfield 113, 3) := by decide +kernel
theorem dX8_sole_42 : decode cX8_sole 42 = .ok (.iconst 0, 1) := by decide +kernel
theorem dX8_sole_43 : decode cX8_sole 43 = .ok (.putfield 125, 3) := by decide +kernel
theorem dX8_sole_46 : decode cX8_sole 46 = .ok (.iload_n 1, 1) := by decide +kernel
theorem dX8_sole_47 : decode cX8_sole 47 = .ok (.ireturn, 1) := by decide +kernel
theorem dX8_teach_0 : decode cX8_teach 0 = .ok (.iload_n 1, 1) := by decide +kernel
theorem dX8_teach_1 : decode cX8_teach 1 = .ok (.invokestatic 217, 3) := by decide +kernel
theorem dX8_teach_4 : decode cX8_teach 4 = .ok (.ifCond .eq 6, 3) := by decide +kernel
theorem dX8_teach_7 : decode cX8_teach 7 = .ok (.ldc 155, 2) := by decide +kernel
theorem dX8_teach_9 : decode cX8_teach 9 = .ok (.ireturn, 1) := by decide +kernel
theorem dX8_teach_10 : decode cX8_teach 10 = .ok (.aload_n 0, 1) := by decide +kernel
theorem dX8_teach_11 : decode cX8_teach 11 = .ok (.getfield 19, 3) := by decide +kernel
theorem dX8_teach_14 : decode cX8_teach 14 = .ok (.getfield 110, 3) := by decide +kernel
theorem dX8_teach_17 : decode cX8_teach 17 = .ok (.ifCond .ne 6, 3) := by decide +kernel
theorem dX8_teach_20 : decode cX8_teach 20 = .ok (.ldc 216, 2) := by decide +kernel
theorem dX8_teach_22 : decode cX8_teach 22 = .ok (.ireturn, 1) := by decide +kernel
theorem dX8_teach_23 : decode cX8_teach 23 = .ok (.aload_n 0, 1) := by decide +kernel
theorem dX8_teach_24 : decode cX8_teach 24 = .ok (.getfield 33, 3) := by decide +kernel
theorem dX8_teach_27 : decode cX8_teach 27 = .ok (.aload_n 0, 1) := by decide +kernel
theorem dX8_teach_28 : decode cX8_teach 28 = .ok (.getfield 26, 3) := by decide +kernel
theorem dX8_teach_31 : decode cX8_teach 31 = .ok (.invokevirtual 191, 3) := by decide +kernel
theorem dX8_teach_34 : decode cX8_teach 34 = .ok (.aload_n 0, 1) := by decide +kernel
theorem dX8_teach_35 : decode cX8_teach 35 = .ok (.getfield 26, 3) := by decide +kernel
theorem dX8_teach_38 : decode cX8_teach 38 = .ok (.getfield 113, 3) := by decide +kernel
theorem dX8_teach_41 : decode cX8_teach 41 = .ok (.getfield 116, 3) := by decide +kernel
theorem dX8_teach_44 : decode cX8_teach 44 = .ok (.istore_n 2, 1) := by decide +kernel
theorem dX8_teach_45 : decode cX8_teach 45 = .ok (.aload_n 0, 1) := by decide +kernel
theorem dX8_teach_46 : decode cX8_teach 46 = .ok (.getfield 26, 3) := by decide +kernel
theorem dX8_teach_49 : decode cX8_teach 49 = .ok (.getfield 113, 3) := by decide +kernel
theorem dX8_teach_52 : decode cX8_teach 52 = .ok (.iload_n 1, 1) := by decide +kernel
theorem dX8_teach_53 : decode cX8_teach 53 = .ok (.putfield 116, 3) := by decide +kernel
theorem dX8_teach_56 : decode cX8_teach 56 = .ok (.iload_n 2, 1) := by decide +kernel
theorem dX8_teach_57 : decode cX8_teach 57 = .ok (.ireturn, 1) := by decide +kernel
theorem dX8_drift_0 : decode cX8_drift 0 = .ok (.aload_n 0, 1) := by decide +kernel
theorem dX8_drift_1 : decode cX8_drift 1 = .ok (.iload_n 1, 1) := by decide +kernel
theorem dX8_drift_2 : decode cX8_drift 2 = .ok (.invokevirtual 188, 3) := by decide +kernel
theorem dX8_drift_5 : decode cX8_drift 5 = .ok (.istore_n 2, 1) := by decide +kernel
theorem dX8_drift_6 : decode cX8_drift 6 = .ok (.iload_n 2, 1) := by decide +kernel
theorem dX8_drift_7 : decode cX8_drift 7 = .ok (.ifCond .eq 5, 3) := by decide +kernel
theorem dX8_drift_10 : decode cX8_drift 10 = .ok (.iload_n 2, 1) := by decide +kernel
theorem dX8_drift_11 : decode cX8_drift 11 = .ok (.ireturn, 1) := by decide +kernel
theorem dX8_drift_12 : decode cX8_drift 12 = .ok (.aload_n 0, 1) := by decide +kernel
theorem dX8_drift_13 : decode cX8_drift 13 = .ok (.getfield 33, 3) := by decide +kernel
theorem dX8_drift_16 : decode cX8_drift 16 = .ok (.aload_n 0, 1) := by decide +kernel
theorem dX8_drift_17 : decode cX8_drift 17 = .ok (.getfield 26, 3) := by decide +kernel
theorem dX8_drift_20 : decode cX8_drift 20 = .ok (.invokevirtual 191, 3) := by decide +kernel
theorem dX8_drift_23 : decode cX8_drift 23 = .ok (.iconst 0, 1) := by decide +kernel
theorem dX8_drift_24 : decode cX8_drift 24 = .ok (.istore_n 3, 1) := by decide +kernel
theorem dX8_drift_25 : decode cX8_drift 25 = .ok (.iload_n 3, 1) := by decide +kernel
theorem dX8_drift_26 : decode cX8_drift 26 = .ok (.iload_n 1, 1) := by decide +kernel
theorem dX8_drift_27 : decode cX8_drift 27 = .ok (.if_icmp .ge 24, 3) := by decide +kernel
theorem dX8_drift_30 : decode cX8_drift 30 = .ok (.aload_n 0, 1) := by decide +kernel
theorem dX8_drift_31 : decode cX8_drift 31 = .ok (.invokevirtual 220, 3) := by decide +kernel
theorem dX8_drift_34 : decode cX8_drift 34 = .ok (.aload_n 0, 1) := by decide +kernel
theorem dX8_drift_35 : decode cX8_drift 35 = .ok (.getfield 26, 3) := by decide +kernel
theorem dX8_drift_38 : decode cX8_drift 38 = .ok (.aload_n 0, 1) := by decide +kernel
theorem dX8_drift_39 : decode cX8_drift 39 = .ok (.getfield 19, 3) := by decide +kernel
theorem dX8_drift_42 : decode cX8_drift 42 = .ok (.invokevirtual 195, 3) := by decide +kernel
theorem dX8_drift_45 : decode cX8_drift 45 = .ok (.iinc 3 1, 3) := by decide +kernel
theorem dX8_drift_48 : decode cX8_drift 48 = .ok (.goto (-23), 3) := by decide +kernel
theorem dX8_drift_51 : decode cX8_drift 51 = .ok (.aload_n 0, 1) := by decide +kernel
theorem dX8_drift_52 : decode cX8_drift 52 = .ok (.getfield 26, 3) := by decide +kernel
theorem dX8_drift_55 : decode cX8_drift 55 = .ok (.getfield 113, 3) := by decide +kernel
theorem dX8_drift_58 : decode cX8_drift 58 = .ok (.getfield 122, 3) := by decide +kernel
theorem dX8_drift_61 : decode cX8_drift 61 = .ok (.ireturn, 1) := by decide +kernel
theorem dX8_undo_0 : decode cX8_undo 0 = .ok (.aload_n 0, 1) := by decide +kernel
theorem dX8_undo_1 : decode cX8_undo 1 = .ok (.getfield 33, 3) := by decide +kernel
theorem dX8_undo_4 : decode cX8_undo 4 = .ok (.getfield 150, 3) := by decide +kernel
theorem dX8_undo_7 : decode cX8_undo 7 = .ok (.ifCond .ne 6, 3) := by decide +kernel
theorem dX8_undo_10 : decode cX8_undo 10 = .ok (.ldc 216, 2) := by decide +kernel
theorem dX8_undo_12 : decode cX8_undo 12 = .ok (.ireturn, 1) := by decide +kernel
theorem dX8_undo_13 : decode cX8_undo 13 = .ok (.aload_n 0, 1) := by decide +kernel
theorem dX8_undo_14 : decode cX8_undo 14 = .ok (.getfield 33, 3) := by decide +kernel
theorem dX8_undo_17 : decode cX8_undo 17 = .ok (.aload_n 0, 1) := by decide +kernel
theorem dX8_undo_18 : decode cX8_undo 18 = .ok (.getfield 26, 3) := by decide +kernel
theorem dX8_undo_21 : decode cX8_undo 21 = .ok (.invokevirtual 223, 3) := by decide +kernel
theorem dX8_undo_24 : decode cX8_undo 24 = .ok (.aload_n 0, 1) := by decide +kernel
theorem dX8_undo_25 : decode cX8_undo 25 = .ok (.getfield 33, 3) := by decide +kernel
theorem dX8_undo_28 : decode cX8_undo 28 = .ok (.getfield 150, 3) := by decide +kernel
theorem dX8_undo_31 : decode cX8_undo 31 = .ok (.ireturn, 1) := by decide +kernel
theorem dX8_where_0 : decode cX8_where 0 = .ok (.iload_n 1, 1) := by decide +kernel
theorem dX8_where_1 : decode cX8_where 1 = .ok (.ifCond .lt 9, 3) := by decide +kernel
theorem dX8_where_4 : decode cX8_where 4 = .ok (.iload_n 1, 1) := by decide +kernel
theorem dX8_where_5 : decode cX8_where 5 = .ok (.bipush 100, 2) := by decide +kernel
theorem dX8_where_7 : decode cX8_where 7 = .ok (.if_icmp .le 6, 3) := by decide +kernel
theorem dX8_where_10 : decode cX8_where 10 = .ok (.ldc 65, 2) := by decide +kernel
theorem dX8_where_12 : decode cX8_where 12 = .ok (.ireturn, 1) := by decide +kernel
theorem dX8_where_13 : decode cX8_where 13 = .ok (.aload_n 0, 1) := by decide +kernel
theorem dX8_where_14 : decode cX8_where 14 = .ok (.getfield 19, 3) := by decide +kernel
theorem dX8_where_17 : decode cX8_where 17 = .ok (.getfield 98, 3) := by decide +kernel
theorem dX8_where_20 : decode cX8_where 20 = .ok (.ifCond .ne 6, 3) := by decide +kernel
theorem dX8_where_23 : decode cX8_where 23 = .ok (.ldc 216, 2) := by decide +kernel
theorem dX8_where_25 : decode cX8_where 25 = .ok (.ireturn, 1) := by decide +kernel
theorem dX8_where_26 : decode cX8_where 26 = .ok (.aload_n 0, 1) := by decide +kernel
theorem dX8_where_27 : decode cX8_where 27 = .ok (.getfield 53, 3) := by decide +kernel
theorem dX8_where_30 : decode cX8_where 30 = .ok (.aload_n 0, 1) := by decide +kernel
theorem dX8_where_31 : decode cX8_where 31 = .ok (.getfield 26, 3) := by decide +kernel
theorem dX8_where_34 : decode cX8_where 34 = .ok (.getfield 113, 3) := by decide +kernel
theorem dX8_where_37 : decode cX8_where 37 = .ok (.invokevirtual 226, 3) := by decide +kernel
theorem dX8_where_40 : decode cX8_where 40 = .ok (.iconst 0, 1) := by decide +kernel
theorem dX8_where_41 : decode cX8_where 41 = .ok (.istore_n 2, 1) := by decide +kernel
theorem dX8_where_42 : decode cX8_where 42 = .ok (.iload_n 2, 1) := by decide +kernel
theorem dX8_where_43 : decode cX8_where 43 = .ok (.iload_n 1, 1) := by decide +kernel
theorem dX8_where_44 : decode cX8_where 44 = .ok (.if_icmp .ge 16, 3) := by decide +kernel
theorem dX8_where_47 : decode cX8_where 47 = .ok (.aload_n 0, 1) := by decide +kernel
theorem dX8_where_48 : decode cX8_where 48 = .ok (.getfield 53, 3) := by decide +kernel
theorem dX8_where_51 : decode cX8_where 51 = .ok (.invokevirtual 230, 3) := by decide +kernel
theorem dX8_where_54 : decode cX8_where 54 = .ok (.iinc 2 1, 3) := by decide +kernel
theorem dX8_where_57 : decode cX8_where 57 = .ok (.goto (-15), 3) := by decide +kernel
theorem dX8_where_60 : decode cX8_where 60 = .ok (.aload_n 0, 1) := by decide +kernel
theorem dX8_where_61 : decode cX8_where 61 = .ok (.getfield 53, 3) := by decide +kernel
theorem dX8_where_64 : decode cX8_where 64 = .ok (.getfield 122, 3) := by decide +kernel
theorem dX8_where_67 : decode cX8_where 67 = .ok (.ireturn, 1) := by decide +kernel
theorem dX8_when_0 : decode cX8_when 0 = .ok (.aload_n 0, 1) := by decide +kernel
theorem dX8_when_1 : decode cX8_when 1 = .ok (.iload_n 1, 1) := by decide +kernel
theorem dX8_when_2 : decode cX8_when 2 = .ok (.invokevirtual 151, 3) := by decide +kernel
theorem dX8_when_5 : decode cX8_when 5 = .ok (.ifCond .eq 6, 3) := by decide +kernel
theorem dX8_when_8 : decode cX8_when 8 = .ok (.ldc 155, 2) := by decide +kernel
theorem dX8_when_10 : decode cX8_when 10 = .ok (.ireturn, 1) := by decide +kernel
theorem dX8_when_11 : decode cX8_when 11 = .ok (.aload_n 0, 1) := by decide +kernel
theorem dX8_when_12 : decode cX8_when 12 = .ok (.getfield 53, 3) := by decide +kernel
theorem dX8_when_15 : decode cX8_when 15 = .ok (.aload_n 0, 1) := by decide +kernel
theorem dX8_when_16 : decode cX8_when 16 = .ok (.getfield 26, 3) := by decide +kernel
theorem dX8_when_19 : decode cX8_when 19 = .ok (.getfield 113, 3) := by decide +kernel
theorem dX8_when_22 : decode cX8_when 22 = .ok (.invokevirtual 226, 3) := by decide +kernel
theorem dX8_when_25 : decode cX8_when 25 = .ok (.aload_n 0, 1) := by decide +kernel
theorem dX8_when_26 : decode cX8_when 26 = .ok (.iload_n 1, 1) := by decide +kernel
theorem dX8_when_27 : decode cX8_when 27 = .ok (.bipush 100, 2) := by decide +kernel
theorem dX8_when_29 : decode cX8_when 29 = .ok (.invokevirtual 233, 3) := by decide +kernel
theorem dX8_when_32 : decode cX8_when 32 = .ok (.ireturn, 1) := by decide +kernel
theorem dX8_governed_0 : decode cX8_governed 0 = .ok (.aload_n 0, 1) := by decide +kernel
theorem dX8_governed_1 : decode cX8_governed 1 = .ok (.iload_n 1, 1) := by decide +kernel
theorem dX8_governed_2 : decode cX8_governed 2 = .ok (.invokevirtual 151, 3) := by decide +kernel
theorem dX8_governed_5 : decode cX8_governed 5 = .ok (.ifCond .eq 6, 3) := by decide +kernel
theorem dX8_governed_8 : decode cX8_governed 8 = .ok (.ldc 155, 2) := by decide +kernel
theorem dX8_governed_10 : decode cX8_governed 10 = .ok (.ireturn, 1) := by decide +kernel
theorem dX8_governed_11 : decode cX8_governed 11 = .ok (.iload_n 2, 1) := by decide +kernel
theorem dX8_governed_12 : decode cX8_governed 12 = .ok (.iconst 1, 1) := by decide +kernel
theorem dX8_governed_13 : decode cX8_governed 13 = .ok (.if_icmp .lt 9, 3) := by decide +kernel
theorem dX8_governed_16 : decode cX8_governed 16 = .ok (.iload_n 2, 1) := by decide +kernel
theorem dX8_governed_17 : decode cX8_governed 17 = .ok (.bipush 100, 2) := by decide +kernel
theorem dX8_governed_19 : decode cX8_governed 19 = .ok (.if_icmp .le 6, 3) := by decide +kernel
theorem dX8_governed_22 : decode cX8_governed 22 = .ok (.ldc 65, 2) := by decide +kernel
theorem dX8_governed_24 : decode cX8_governed 24 = .ok (.ireturn, 1) := by decide +kernel
theorem dX8_governed_25 : decode cX8_governed 25 = .ok (.aload_n 0, 1) := by decide +kernel
theorem dX8_governed_26 : decode cX8_governed 26 = .ok (.getfield 53, 3) := by decide +kernel
theorem dX8_governed_29 : decode cX8_governed 29 = .ok (.aload_n 0, 1) := by decide +kernel
theorem dX8_governed_30 : decode cX8_governed 30 = .ok (.getfield 26, 3) := by decide +kernel
theorem dX8_governed_33 : decode cX8_governed 33 = .ok (.getfield 113, 3) := by decide +kernel
theorem dX8_governed_36 : decode cX8_governed 36 = .ok (.invokevirtual 226, 3) := by decide +kernel
theorem dX8_governed_39 : decode cX8_governed 39 = .ok (.iconst 0, 1) := by decide +kernel
theorem dX8_governed_40 : decode cX8_governed 40 = .ok (.istore_n 3, 1) := by decide +kernel
theorem dX8_governed_41 : decode cX8_governed 41 = .ok (.iconst 0, 1) := by decide +kernel
theorem dX8_governed_42 : decode cX8_governed 42 = .ok (.istore 4, 2) := by decide +kernel
theorem dX8_governed_44 : decode cX8_governed 44 = .ok (.iload 4, 2) := by decide +kernel
theorem dX8_governed_46 : decode cX8_governed 46 = .ok (.iload_n 2, 1) := by decide +kernel
theorem dX8_governed_47 : decode cX8_governed 47 = .ok (.if_icmp .ge 30, 3) := by decide +kernel
theorem dX8_governed_50 : decode cX8_governed 50 = .ok (.aload_n 0, 1) := by decide +kernel
theorem dX8_governed_51 : decode cX8_governed 51 = .ok (.getfield 53, 3) := by decide +kernel
theorem dX8_governed_54 : decode cX8_governed 54 = .ok (.getfield 122, 3) := by decide +kernel
theorem dX8_governed_57 : decode cX8_governed 57 = .ok (.iload_n 1, 1) := by decide +kernel
theorem dX8_governed_58 : decode cX8_governed 58 = .ok (.if_icmp .ne 6, 3) := by decide +kernel
theorem dX8_governed_61 : decode cX8_governed 61 = .ok (.iinc 3 1, 3) := by decide +kernel
theorem dX8_governed_64 : decode cX8_governed 64 = .ok (.aload_n 0, 1) := by decide +kernel
theorem dX8_governed_65 : decode cX8_governed 65 = .ok (.getfield 53, 3) := by decide +kernel
theorem dX8_governed_68 : decode cX8_governed 68 = .ok (.invokevirtual 230, 3) := by decide +kernel
theorem dX8_governed_71 : decode cX8_governed 71 = .ok (.iinc 4 1, 3) := by decide +kernel
theorem dX8_governed_74 : decode cX8_governed 74 = .ok (.goto (-30), 3) := by decide +kernel
theorem dX8_governed_77 : decode cX8_governed 77 = .ok (.iload_n 3, 1) := by decide +kernel
theorem dX8_governed_78 : decode cX8_governed 78 = .ok (.ireturn, 1) := by decide +kernel
theorem dX8_ring_0 : decode cX8_ring 0 = .ok (.aload_n 0, 1) := by decide +kernel
theorem dX8_ring_1 : decode cX8_ring 1 = .ok (.getfield 19, 3) := by decide +kernel
theorem dX8_ring_4 : decode cX8_ring 4 = .ok (.getfield 98, 3) := by decide +kernel
theorem dX8_ring_7 : decode cX8_ring 7 = .ok (.ifCond .ne 6, 3) := by decide +kernel
theorem dX8_ring_10 : decode cX8_ring 10 = .ok (.ldc 216, 2) := by decide +kernel
theorem dX8_ring_12 : decode cX8_ring 12 = .ok (.ireturn, 1) := by decide +kernel
theorem dX8_ring_13 : decode cX8_ring 13 = .ok (.aload_n 0, 1) := by decide +kernel
theorem dX8_ring_14 : decode cX8_ring 14 = .ok (.getfield 53, 3) := by decide +kernel
theorem dX8_ring_17 : decode cX8_ring 17 = .ok (.aload_n 0, 1) := by decide +kernel
theorem dX8_ring_18 : decode cX8_ring 18 = .ok (.getfield 26, 3) := by decide +kernel
theorem dX8_ring_21 : decode cX8_ring 21 = .ok (.getfield 113, 3) := by decide +kernel
theorem dX8_ring_24 : decode cX8_ring 24 = .ok (.invokevirtual 226, 3) := by decide +kernel
theorem dX8_ring_27 : decode cX8_ring 27 = .ok (.iconst 0, 1) := by decide +kernel
theorem dX8_ring_28 : decode cX8_ring 28 = .ok (.istore_n 1, 1) := by decide +kernel
theorem dX8_ring_29 : decode cX8_ring 29 = .ok (.iconst 1, 1) := by decide +kernel
theorem dX8_ring_30 : decode cX8_ring 30 = .ok (.istore_n 2, 1) := by decide +kernel
theorem dX8_ring_31 : decode cX8_ring 31 = .ok (.iload_n 2, 1) := by decide +kernel
theorem dX8_ring_32 : decode cX8_ring 32 = .ok (.bipush 100, 2) := by decide +kernel
theorem dX8_ring_34 : decode cX8_ring 34 = .ok (.if_icmp .gt 47, 3) := by decide +kernel
theorem dX8_ring_37 : decode cX8_ring 37 = .ok (.aload_n 0, 1) := by decide +kernel
theorem dX8_ring_38 : decode cX8_ring 38 = .ok (.getfield 53, 3) := by decide +kernel
theorem dX8_ring_41 : decode cX8_ring 41 = .ok (.invokevirtual 230, 3) := by decide +kernel
theorem dX8_ring_44 : decode cX8_ring 44 = .ok (.aload_n 0, 1) := by decide +kernel
theorem dX8_ring_45 : decode cX8_ring 45 = .ok (.getfield 53, 3) := by decide +kernel
theorem dX8_ring_48 : decode cX8_ring 48 = .ok (.getfield 122, 3) := by decide +kernel
theorem dX8_ring_51 : decode cX8_ring 51 = .ok (.aload_n 0, 1) := by decide +kernel
theorem dX8_ring_52 : decode cX8_ring 52 = .ok (.getfield 26, 3) := by decide +kernel
theorem dX8_ring_55 : decode cX8_ring 55 = .ok (.getfield 113, 3) := by decide +kernel
theorem dX8_ring_58 : decode cX8_ring 58 = .ok (.getfield 122, 3) := by decide +kernel
theorem dX8_ring_61 : decode cX8_ring 61 = .ok (.if_icmp .eq 8, 3) := by decide +kernel
theorem dX8_ring_64 : decode cX8_ring 64 = .ok (.iconst 1, 1) := by decide +kernel
theorem dX8_ring_65 : decode cX8_ring 65 = .ok (.istore_n 1, 1) := by decide +kernel
theorem dX8_ring_66 : decode cX8_ring 66 = .ok (.goto 9, 3) := by decide +kernel
theorem dX8_ring_69 : decode cX8_ring 69 = .ok (.iload_n 1, 1) := by decide +kernel
theorem dX8_ring_70 : decode cX8_ring 70 = .ok (.ifCond .eq 5, 3) := by decide +kernel
theorem dX8_ring_73 : decode cX8_ring 73 = .ok (.iload_n 2, 1) := by decide +kernel
theorem dX8_ring_74 : decode cX8_ring 74 = .ok (.ireturn, 1) := by decide +kernel
theorem dX8_ring_75 : decode cX8_ring 75 = .ok (.iinc 2 1, 3) := by decide +kernel
theorem dX8_ring_78 : decode cX8_ring 78 = .ok (.goto (-47), 3) := by decide +kernel
theorem dX8_ring_81 : decode cX8_ring 81 = .ok (.iconst (-1), 1) := by decide +kernel
theorem dX8_ring_82 : decode cX8_ring 82 = .ok (.ireturn, 1) := by decide +kernel
theorem dX8_carpets_0 : decode cX8_carpets 0 = .ok (.aload_n 0, 1) := by decide +kernel
theorem dX8_carpets_1 : decode cX8_carpets 1 = .ok (.iload_n 1, 1) := by decide +kernel
theorem dX8_carpets_2 : decode cX8_carpets 2 = .ok (.invokevirtual 151, 3) := by decide +kernel
theorem dX8_carpets_5 : decode cX8_carpets 5 = .ok (.ifCond .eq 6, 3) := by decide +kernel
theorem dX8_carpets_8 : decode cX8_carpets 8 = .ok (.ldc 155, 2) := by decide +kernel
theorem dX8_carpets_10 : decode cX8_carpets 10 = .ok (.ireturn, 1) := by decide +kernel
theorem dX8_carpets_11 : decode cX8_carpets 11 = .ok (.iload_n 2, 1) := by decide +kernel
theorem dX8_carpets_12 : decode cX8_carpets 12 = .ok (.ifCond .lt 9, 3) := by decide +kernel
theorem dX8_carpets_15 : decode cX8_carpets 15 = .ok (.iload_n 2, 1) := by decide +kernel
theorem dX8_carpets_16 : decode cX8_carpets 16 = .ok (.bipush 20, 2) := by decide +kernel
theorem dX8_carpets_18 : decode cX8_carpets 18 = .ok (.if_icmp .le 6, 3) := by decide +kernel
theorem dX8_carpets_21 : decode cX8_carpets 21 = .ok (.ldc 65, 2) := by decide +kernel
theorem dX8_carpets_23 : decode cX8_carpets 23 = .ok (.ireturn, 1) := by decide +kernel
theorem dX8_carpets_24 : decode cX8_carpets 24 = .ok (.iconst (-1), 1) := by decide +kernel
theorem dX8_carpets_25 : decode cX8_carpets 25 = .ok (.istore_n 3, 1) := by decide +kernel
theorem dX8_carpets_26 : decode cX8_carpets 26 = .ok (.iconst 0, 1) := by decide +kernel
theorem dX8_carpets_27 : decode cX8_carpets 27 = .ok (.istore 4, 2) := by decide +kernel
theorem dX8_carpets_29 : decode cX8_carpets 29 = .ok (.iload 4, 2) := by decide +kernel
theorem dX8_carpets_31 : decode cX8_carpets 31 = .ok (.iconst 1, 1) := by decide +kernel
theorem dX8_carpets_32 : decode cX8_carpets 32 = .ok (.aload_n 0, 1) := by decide +kernel
theorem dX8_carpets_33 : decode cX8_carpets 33 = .ok (.getfield 19, 3) := by decide +kernel
theorem dX8_carpets_36 : decode cX8_carpets 36 = .ok (.getfield 98, 3) := by decide +kernel
theorem dX8_carpets_39 : decode cX8_carpets 39 = .ok (.ishl, 1) := by decide +kernel
theorem dX8_carpets_40 : decode cX8_carpets 40 = .ok (.if_icmp .ge 59, 3) := by decide +kernel
theorem dX8_carpets_43 : decode cX8_carpets 43 = .ok (.iload 4, 2) := by decide +kernel
theorem dX8_carpets_45 : decode cX8_carpets 45 = .ok (.iload_n 3, 1) := by decide +kernel
theorem dX8_carpets_46 : decode cX8_carpets 46 = .ok (.invokestatic 236, 3) := by decide +kernel
theorem dX8_carpets_49 : decode cX8_carpets 49 = .ok (.ifCond .eq 44, 3) := by decide +kernel
theorem dX8_carpets_52 : decode cX8_carpets 52 = .ok (.aload_n 0, 1) := by decide +kernel
theorem dX8_carpets_53 : decode cX8_carpets 53 = .ok (.getfield 53, 3) := by decide +kernel
theorem dX8_carpets_56 : decode cX8_carpets 56 = .ok (.aload_n 0, 1) := by decide +kernel
theorem dX8_carpets_57 : decode cX8_carpets 57 = .ok (.getfield 26, 3) := by decide +kernel
theorem dX8_carpets_60 : decode cX8_carpets 60 = .ok (.getfield 113, 3) := by decide +kernel
theorem dX8_carpets_63 : decode cX8_carpets 63 = .ok (.invokevirtual 226, 3) := by decide +kernel
theorem dX8_carpets_66 : decode cX8_carpets 66 = .ok (.aload_n 0, 1) := by decide +kernel
theorem dX8_carpets_67 : decode cX8_carpets 67 = .ok (.getfield 53, 3) := by decide +kernel
theorem dX8_carpets_70 : decode cX8_carpets 70 = .ok (.dup, 1) := by decide +kernel
theorem dX8_carpets_71 : decode cX8_carpets 71 = .ok (.getfield 128, 3) := by decide +kernel
theorem dX8_carpets_74 : decode cX8_carpets 74 = .ok (.iload 4, 2) := by decide +kernel
theorem dX8_carpets_76 : decode cX8_carpets 76 = .ok (.ixor, 1) := by decide +kernel
theorem dX8_carpets_77 : decode cX8_carpets 77 = .ok (.putfield 128, 3) := by decide +kernel
theorem dX8_carpets_80 : decode cX8_carpets 80 = .ok (.aload_n 0, 1) := by decide +kernel
theorem dX8_carpets_81 : decode cX8_carpets 81 = .ok (.iload_n 1, 1) := by decide +kernel
theorem dX8_carpets_82 : decode cX8_carpets 82 = .ok (.iload_n 2, 1) := by decide +kernel
theorem dX8_carpets_83 : decode cX8_carpets 83 = .ok (.invokevirtual 233, 3) := by decide +kernel
theorem dX8_carpets_86 : decode cX8_carpets 86 = .ok (.iconst (-1), 1) := by decide +kernel
theorem dX8_carpets_87 : decode cX8_carpets 87 = .ok (.if_icmp .eq 6, 3) := by decide +kernel
theorem dX8_carpets_90 : decode cX8_carpets 90 = .ok (.iload 4, 2) := by decide +kernel
theorem dX8_carpets_92 : decode cX8_carpets 92 = .ok (.istore_n 3, 1) := by decide +kernel
theorem dX8_carpets_93 : decode cX8_carpets 93 = .ok (.iinc 4 1, 3) := by decide +kernel
theorem dX8_carpets_96 : decode cX8_carpets 96 = .ok (.goto (-67), 3) := by decide +kernel
theorem dX8_carpets_99 : decode cX8_carpets 99 = .ok (.iload_n 3, 1) := by decide +kernel
theorem dX8_carpets_100 : decode cX8_carpets 100 = .ok (.ireturn, 1) := by decide +kernel
theorem dX8_bricks_0 : decode cX8_bricks 0 = .ok (.aload_n 0, 1) := by decide +kernel
theorem dX8_bricks_1 : decode cX8_bricks 1 = .ok (.iload_n 1, 1) := by decide +kernel
theorem dX8_bricks_2 : decode cX8_bricks 2 = .ok (.invokevirtual 151, 3) := by decide +kernel
theorem dX8_bricks_5 : decode cX8_bricks 5 = .ok (.ifCond .eq 6, 3) := by decide +kernel
theorem dX8_bricks_8 : decode cX8_bricks 8 = .ok (.ldc 155, 2) := by decide +kernel
theorem dX8_bricks_10 : decode cX8_bricks 10 = .ok (.ireturn, 1) := by decide +kernel
theorem dX8_bricks_11 : decode cX8_bricks 11 = .ok (.aload_n 0, 1) := by decide +kernel
theorem dX8_bricks_12 : decode cX8_bricks 12 = .ok (.getfield 26, 3) := by decide +kernel
theorem dX8_bricks_15 : decode cX8_bricks 15 = .ok (.getfield 113, 3) := by decide +kernel
theorem dX8_bricks_18 : decode cX8_bricks 18 = .ok (.getfield 122, 3) := by decide +kernel
theorem dX8_bricks_21 : decode cX8_bricks 21 = .ok (.istore_n 2, 1) := by decide +kernel
theorem dX8_bricks_22 : decode cX8_bricks 22 = .ok (.iload_n 1, 1) := by decide +kernel
theorem dX8_bricks_23 : decode cX8_bricks 23 = .ok (.iload_n 2, 1) := by decide +kernel
theorem dX8_bricks_24 : decode cX8_bricks 24 = .ok (.if_icmp .ne 5, 3) := by decide +kernel
theorem dX8_bricks_27 : decode cX8_bricks 27 = .ok (.iconst (-1), 1) := by decide +kernel
theorem dX8_bricks_28 : decode cX8_bricks 28 = .ok (.ireturn, 1) := by decide +kernel
theorem dX8_bricks_29 : decode cX8_bricks 29 = .ok (.aload_n 0, 1) := by decide +kernel
theorem dX8_bricks_30 : decode cX8_bricks 30 = .ok (.invokevirtual 240, 3) := by decide +kernel
theorem dX8_bricks_33 : decode cX8_bricks 33 = .ok (.istore_n 3, 1) := by decide +kernel
theorem dX8_bricks_34 : decode cX8_bricks 34 = .ok (.iconst (-1), 1) := by decide +kernel
theorem dX8_bricks_35 : decode cX8_bricks 35 = .ok (.istore 4, 2) := by decide +kernel
theorem dX8_bricks_37 : decode cX8_bricks 37 = .ok (.iconst 0, 1) := by decide +kernel
theorem dX8_bricks_38 : decode cX8_bricks 38 = .ok (.istore 5, 2) := by decide +kernel
theorem dX8_bricks_40 : decode cX8_bricks 40 = .ok (.iload 5, 2) := by decide +kernel
theorem dX8_bricks_42 : decode cX8_bricks 42 = .ok (.iconst 1, 1) := by decide +kernel
theorem dX8_bricks_43 : decode cX8_bricks 43 = .ok (.aload_n 0, 1) := by decide +kernel
theorem dX8_bricks_44 : decode cX8_bricks 44 = .ok (.getfield 19, 3) := by decide +kernel
theorem dX8_bricks_47 : decode cX8_bricks 47 = .ok (.getfield 98, 3) := by decide +kernel
theorem dX8_bricks_50 : decode cX8_bricks 50 = .ok (.ishl, 1) := by decide +kernel
theorem dX8_bricks_51 : decode cX8_bricks 51 = .ok (.if_icmp .ge 55, 3) := by decide +kernel
theorem dX8_bricks_54 : decode cX8_bricks 54 = .ok (.iload 5, 2) := by decide +kernel
theorem dX8_bricks_56 : decode cX8_bricks 56 = .ok (.iload_n 2, 1) := by decide +kernel
theorem dX8_bricks_57 : decode cX8_bricks 57 = .ok (.invokestatic 173, 3) := by decide +kernel
theorem dX8_bricks_60 : decode cX8_bricks 60 = .ok (.iconst 1, 1) := by decide +kernel
theorem dX8_bricks_61 : decode cX8_bricks 61 = .ok (.if_icmp .ne 39, 3) := by decide +kernel
theorem dX8_bricks_64 : decode cX8_bricks 64 = .ok (.iload 5, 2) := by decide +kernel
theorem dX8_bricks_66 : decode cX8_bricks 66 = .ok (.iload_n 1, 1) := by decide +kernel
theorem dX8_bricks_67 : decode cX8_bricks 67 = .ok (.invokestatic 173, 3) := by decide +kernel
theorem dX8_bricks_70 : decode cX8_bricks 70 = .ok (.ifCond .ne 30, 3) := by decide +kernel
theorem dX8_bricks_73 : decode cX8_bricks 73 = .ok (.aload_n 0, 1) := by decide +kernel
theorem dX8_bricks_74 : decode cX8_bricks 74 = .ok (.getfield 19, 3) := by decide +kernel
theorem dX8_bricks_77 : decode cX8_bricks 77 = .ok (.iload 5, 2) := by decide +kernel
theorem dX8_bricks_79 : decode cX8_bricks 79 = .ok (.invokevirtual 244, 3) := by decide +kernel
theorem dX8_bricks_82 : decode cX8_bricks 82 = .ok (.iload_n 3, 1) := by decide +kernel
theorem dX8_bricks_83 : decode cX8_bricks 83 = .ok (.iand, 1) := by decide +kernel
theorem dX8_bricks_84 : decode cX8_bricks 84 = .ok (.istore 6, 2) := by decide +kernel
theorem dX8_bricks_86 : decode cX8_bricks 86 = .ok (.iload 6, 2) := by decide +kernel
theorem dX8_bricks_88 : decode cX8_bricks 88 = .ok (.iload 4, 2) := by decide +kernel
theorem dX8_bricks_90 : decode cX8_bricks 90 = .ok (.invokestatic 236, 3) := by decide +kernel
theorem dX8_bricks_93 : decode cX8_bricks 93 = .ok (.ifCond .eq 7, 3) := by decide +kernel
theorem dX8_bricks_96 : decode cX8_bricks 96 = .ok (.iload 6, 2) := by decide +kernel
theorem dX8_bricks_98 : decode cX8_bricks 98 = .ok (.istore 4, 2) := by decide +kernel
theorem dX8_bricks_100 : decode cX8_bricks 100 = .ok (.iinc 5 1, 3) := by decide +kernel
theorem dX8_bricks_103 : decode cX8_bricks 103 = .ok (.goto (-63), 3) := by decide +kernel
theorem dX8_bricks_106 : decode cX8_bricks 106 = .ok (.iload 4, 2) := by decide +kernel
theorem dX8_bricks_108 : decode cX8_bricks 108 = .ok (.ireturn, 1) := by decide +kernel
theorem dX8_quietest_0 : decode cX8_quietest 0 = .ok (.aload_n 0, 1) := by decide +kernel
theorem dX8_quietest_1 : decode cX8_quietest 1 = .ok (.iload_n 1, 1) := by decide +kernel
theorem dX8_quietest_2 : decode cX8_quietest 2 = .ok (.invokevirtual 151, 3) := by decide +kernel
theorem dX8_quietest_5 : decode cX8_quietest 5 = .ok (.ifCond .eq 6, 3) := by decide +kernel
theorem dX8_quietest_8 : decode cX8_quietest 8 = .ok (.ldc 155, 2) := by decide +kernel
theorem dX8_quietest_10 : decode cX8_quietest 10 = .ok (.ireturn, 1) := by decide +kernel
theorem dX8_quietest_11 : decode cX8_quietest 11 = .ok (.aload_n 0, 1) := by decide +kernel
theorem dX8_quietest_12 : decode cX8_quietest 12 = .ok (.getfield 60, 3) := by decide +kernel
theorem dX8_quietest_15 : decode cX8_quietest 15 = .ok (.astore_n 2, 1) := by decide +kernel
theorem dX8_quietest_16 : decode cX8_quietest 16 = .ok (.aload_n 2, 1) := by decide +kernel
theorem dX8_quietest_17 : decode cX8_quietest 17 = .ok (.iconst (-1), 1) := by decide +kernel
theorem dX8_quietest_18 : decode cX8_quietest 18 = .ok (.invokestatic 247, 3) := by decide +kernel
theorem dX8_quietest_21 : decode cX8_quietest 21 = .ok (.aload_n 2, 1) := by decide +kernel
theorem dX8_quietest_22 : decode cX8_quietest 22 = .ok (.aload_n 0, 1) := by decide +kernel
theorem dX8_quietest_23 : decode cX8_quietest 23 = .ok (.getfield 26, 3) := by decide +kernel
theorem dX8_quietest_26 : decode cX8_quietest 26 = .ok (.getfield 113, 3) := by decide +kernel
theorem dX8_quietest_29 : decode cX8_quietest 29 = .ok (.getfield 122, 3) := by decide +kernel
theorem dX8_quietest_32 : decode cX8_quietest 32 = .ok (.iconst 0, 1) := by decide +kernel
theorem dX8_quietest_33 : decode cX8_quietest 33 = .ok (.iastore, 1) := by decide +kernel
theorem dX8_quietest_34 : decode cX8_quietest 34 = .ok (.iconst 0, 1) := by decide +kernel
theorem dX8_quietest_35 : decode cX8_quietest 35 = .ok (.istore_n 3, 1) := by decide +kernel
theorem dX8_quietest_36 : decode cX8_quietest 36 = .ok (.iload_n 3, 1) := by decide +kernel
theorem dX8_quietest_37 : decode cX8_quietest 37 = .ok (.aload_n 0, 1) := by decide +kernel
theorem dX8_quietest_38 : decode cX8_quietest 38 = .ok (.getfield 19, 3) := by decide +kernel
theorem dX8_quietest_41 : decode cX8_quietest 41 = .ok (.getfield 98, 3) := by decide +kernel
theorem dX8_quietest_44 : decode cX8_quietest 44 = .ok (.if_icmp .ge 45, 3) := by decide +kernel
theorem dX8_quietest_47 : decode cX8_quietest 47 = .ok (.iconst 0, 1) := by decide +kernel
theorem dX8_quietest_48 : decode cX8_quietest 48 = .ok (.istore 4, 2) := by decide +kernel
theorem dX8_quietest_50 : decode cX8_quietest 50 = .ok (.iload 4, 2) := by decide +kernel
theorem dX8_quietest_52 : decode cX8_quietest 52 = .ok (.aload_n 0, 1) := by decide +kernel
theorem dX8_quietest_53 : decode cX8_quietest 53 = .ok (.getfield 19, 3) := by decide +kernel
theorem dX8_quietest_56 : decode cX8_quietest 56 = .ok (.getfield 98, 3) := by decide +kernel
theorem dX8_quietest_59 : decode cX8_quietest 59 = .ok (.if_icmp .ge 24, 3) := by decide +kernel
theorem dX8_quietest_62 : decode cX8_quietest 62 = .ok (.aload_n 2, 1) := by decide +kernel
theorem dX8_quietest_63 : decode cX8_quietest 63 = .ok (.iload 4, 2) := by decide +kernel
theorem dX8_quietest_65 : decode cX8_quietest 65 = .ok (.iaload, 1) := by decide +kernel
theorem dX8_quietest_66 : decode cX8_quietest 66 = .ok (.iconst (-1), 1) := by decide +kernel
theorem dX8_quietest_67 : decode cX8_quietest 67 = .ok (.if_icmp .eq 10, 3) := by decide +kernel
theorem dX8_quietest_70 : decode cX8_quietest 70 = .ok (.aload_n 0, 1) := by decide +kernel
theorem dX8_quietest_71 : decode cX8_quietest 71 = .ok (.aload_n 2, 1) := by decide +kernel
theorem dX8_quietest_72 : decode cX8_quietest 72 = .ok (.iload 4, 2) := by decide +kernel
theorem dX8_quietest_74 : decode cX8_quietest 74 = .ok (.invokevirtual 253, 3) := by decide +kernel
theorem dX8_quietest_77 : decode cX8_quietest 77 = .ok (.iinc 4 1, 3) := by decide +kernel
theorem dX8_quietest_80 : decode cX8_quietest 80 = .ok (.goto (-30), 3) := by decide +kernel
theorem dX8_quietest_83 : decode cX8_quietest 83 = .ok (.iinc 3 1, 3) := by decide +kernel
theorem dX8_quietest_86 : decode cX8_quietest 86 = .ok (.goto (-50), 3) := by decide +kernel
theorem dX8_quietest_89 : decode cX8_quietest 89 = .ok (.aload_n 2, 1) := by decide +kernel
theorem dX8_quietest_90 : decode cX8_quietest 90 = .ok (.iload_n 1, 1) := by decide +kernel
theorem dX8_quietest_91 : decode cX8_quietest 91 = .ok (.iaload, 1) := by decide +kernel
theorem dX8_quietest_92 : decode cX8_quietest 92 = .ok (.ireturn, 1) := by decide +kernel
theorem dX8_stand_0 : decode cX8_stand 0 = .ok (.aload_n 0, 1) := by decide +kernel
theorem dX8_stand_1 : decode cX8_stand 1 = .ok (.getfield 19, 3) := by decide +kernel
theorem dX8_stand_4 : decode cX8_stand 4 = .ok (.getfield 98, 3) := by decide +kernel
theorem dX8_stand_7 : decode cX8_stand 7 = .ok (.ifCond .ne 6, 3) := by decide +kernel
theorem dX8_stand_10 : decode cX8_stand 10 = .ok (.ldc 216, 2) := by decide +kernel
theorem dX8_stand_12 : decode cX8_stand 12 = .ok (.ireturn, 1) := by decide +kernel
theorem dX8_stand_13 : decode cX8_stand 13 = .ok (.aload_n 0, 1) := by decide +kernel
theorem dX8_stand_14 : decode cX8_stand 14 = .ok (.getfield 53, 3) := by decide +kernel
theorem dX8_stand_17 : decode cX8_stand 17 = .ok (.aload_n 0, 1) := by decide +kernel
theorem dX8_stand_18 : decode cX8_stand 18 = .ok (.getfield 26, 3) := by decide +kernel
theorem dX8_stand_21 : decode cX8_stand 21 = .ok (.getfield 113, 3) := by decide +kernel
theorem dX8_stand_24 : decode cX8_stand 24 = .ok (.invokevirtual 226, 3) := by decide +kernel
theorem dX8_stand_27 : decode cX8_stand 27 = .ok (.iconst 0, 1) := by decide +kernel
theorem dX8_stand_28 : decode cX8_stand 28 = .ok (.istore_n 1, 1) := by decide +kernel
theorem dX8_stand_29 : decode cX8_stand 29 = .ok (.iload_n 1, 1) := by decide +kernel
theorem dX8_stand_30 : decode cX8_stand 30 = .ok (.bipush 100, 2) := by decide +kernel
theorem dX8_stand_32 : decode cX8_stand 32 = .ok (.if_icmp .ge 44, 3) := by decide +kernel
theorem dX8_stand_35 : decode cX8_stand 35 = .ok (.aload_n 0, 1) := by decide +kernel
theorem dX8_stand_36 : decode cX8_stand 36 = .ok (.getfield 53, 3) := by decide +kernel
theorem dX8_stand_39 : decode cX8_stand 39 = .ok (.getfield 122, 3) := by decide +kernel
theorem dX8_stand_42 : decode cX8_stand 42 = .ok (.aload_n 0, 1) := by decide +kernel
theorem dX8_stand_43 : decode cX8_stand 43 = .ok (.getfield 26, 3) := by decide +kernel
theorem dX8_stand_46 : decode cX8_stand 46 = .ok (.getfield 113, 3) := by decide +kernel
theorem dX8_stand_49 : decode cX8_stand 49 = .ok (.getfield 122, 3) := by decide +kernel
theorem dX8_stand_52 : decode cX8_stand 52 = .ok (.if_icmp .eq 11, 3) := by decide +kernel
theorem dX8_stand_55 : decode cX8_stand 55 = .ok (.aload_n 0, 1) := by decide +kernel
theorem dX8_stand_56 : decode cX8_stand 56 = .ok (.getfield 53, 3) := by decide +kernel
theorem dX8_stand_59 : decode cX8_stand 59 = .ok (.getfield 122, 3) := by decide +kernel
theorem dX8_stand_62 : decode cX8_stand 62 = .ok (.ireturn, 1) := by decide +kernel
theorem dX8_stand_63 : decode cX8_stand 63 = .ok (.aload_n 0, 1) := by decide +kernel
theorem dX8_stand_64 : decode cX8_stand 64 = .ok (.getfield 53, 3) := by decide +kernel
theorem dX8_stand_67 : decode cX8_stand 67 = .ok (.invokevirtual 230, 3) := by decide +kernel
theorem dX8_stand_70 : decode cX8_stand 70 = .ok (.iinc 1 1, 3) := by decide +kernel
theorem dX8_stand_73 : decode cX8_stand 73 = .ok (.goto (-44), 3) := by decide +kernel
theorem dX8_stand_76 : decode cX8_stand 76 = .ok (.iconst (-1), 1) := by decide +kernel
theorem dX8_stand_77 : decode cX8_stand 77 = .ok (.ireturn, 1) := by decide +kernel
theorem dX8_willHear_0 : decode cX8_willHear 0 = .ok (.iload_n 1, 1) := by decide +kernel
theorem dX8_willHear_1 : decode cX8_willHear 1 = .ok (.iconst 1, 1) := by decide +kernel
theorem dX8_willHear_2 : decode cX8_willHear 2 = .ok (.if_icmp .lt 9, 3) := by decide +kernel
theorem dX8_willHear_5 : decode cX8_willHear 5 = .ok (.iload_n 1, 1) := by decide +kernel
theorem dX8_willHear_6 : decode cX8_willHear 6 = .ok (.bipush 100, 2) := by decide +kernel
theorem dX8_willHear_8 : decode cX8_willHear 8 = .ok (.if_icmp .le 6, 3) := by decide +kernel
theorem dX8_willHear_11 : decode cX8_willHear 11 = .ok (.ldc 65, 2) := by decide +kernel
theorem dX8_willHear_13 : decode cX8_willHear 13 = .ok (.ireturn, 1) := by decide +kernel
theorem dX8_willHear_14 : decode cX8_willHear 14 = .ok (.aload_n 0, 1) := by decide +kernel
theorem dX8_willHear_15 : decode cX8_willHear 15 = .ok (.getfield 19, 3) := by decide +kernel
theorem dX8_willHear_18 : decode cX8_willHear 18 = .ok (.getfield 98, 3) := by decide +kernel
theorem dX8_willHear_21 : decode cX8_willHear 21 = .ok (.ifCond .ne 6, 3) := by decide +kernel
theorem dX8_willHear_24 : decode cX8_willHear 24 = .ok (.ldc 216, 2) := by decide +kernel
theorem dX8_willHear_26 : decode cX8_willHear 26 = .ok (.ireturn, 1) := by decide +kernel
theorem dX8_willHear_27 : decode cX8_willHear 27 = .ok (.aload_n 0, 1) := by decide +kernel
theorem dX8_willHear_28 : decode cX8_willHear 28 = .ok (.getfield 53, 3) := by decide +kernel
theorem dX8_willHear_31 : decode cX8_willHear 31 = .ok (.aload_n 0, 1) := by decide +kernel
theorem dX8_willHear_32 : decode cX8_willHear 32 = .ok (.getfield 26, 3) := by decide +kernel
theorem dX8_willHear_35 : decode cX8_willHear 35 = .ok (.getfield 113, 3) := by decide +kernel
theorem dX8_willHear_38 : decode cX8_willHear 38 = .ok (.invokevirtual 226, 3) := by decide +kernel
theorem dX8_willHear_41 : decode cX8_willHear 41 = .ok (.iconst 0, 1) := by decide +kernel
theorem dX8_willHear_42 : decode cX8_willHear 42 = .ok (.istore_n 2, 1) := by decide +kernel
theorem dX8_willHear_43 : decode cX8_willHear 43 = .ok (.iconst 0, 1) := by decide +kernel
theorem dX8_willHear_44 : decode cX8_willHear 44 = .ok (.istore_n 3, 1) := by decide +kernel
theorem dX8_willHear_45 : decode cX8_willHear 45 = .ok (.iload_n 3, 1) := by decide +kernel
theorem dX8_willHear_46 : decode cX8_willHear 46 = .ok (.iload_n 1, 1) := by decide +kernel
theorem dX8_willHear_47 : decode cX8_willHear 47 = .ok (.if_icmp .ge 28, 3) := by decide +kernel
theorem dX8_willHear_50 : decode cX8_willHear 50 = .ok (.iload_n 2, 1) := by decide +kernel
theorem dX8_willHear_51 : decode cX8_willHear 51 = .ok (.iconst 1, 1) := by decide +kernel
theorem dX8_willHear_52 : decode cX8_willHear 52 = .ok (.aload_n 0, 1) := by decide +kernel
theorem dX8_willHear_53 : decode cX8_willHear 53 = .ok (.getfield 53, 3) := by decide +kernel
theorem dX8_willHear_56 : decode cX8_willHear 56 = .ok (.getfield 122, 3) := by decide +kernel
theorem dX8_willHear_59 : decode cX8_willHear 59 = .ok (.ishl, 1) := by decide +kernel
theorem dX8_willHear_60 : decode cX8_willHear 60 = .ok (.ior, 1) := by decide +kernel
theorem dX8_willHear_61 : decode cX8_willHear 61 = .ok (.istore_n 2, 1) := by decide +kernel
theorem dX8_willHear_62 : decode cX8_willHear 62 = .ok (.aload_n 0, 1) := by decide +kernel
theorem dX8_willHear_63 : decode cX8_willHear 63 = .ok (.getfield 53, 3) := by decide +kernel
theorem dX8_willHear_66 : decode cX8_willHear 66 = .ok (.invokevirtual 230, 3) := by decide +kernel
theorem dX8_willHear_69 : decode cX8_willHear 69 = .ok (.iinc 3 1, 3) := by decide +kernel
theorem dX8_willHear_72 : decode cX8_willHear 72 = .ok (.goto (-27), 3) := by decide +kernel
theorem dX8_willHear_75 : decode cX8_willHear 75 = .ok (.aload_n 0, 1) := by decide +kernel
theorem dX8_willHear_76 : decode cX8_willHear 76 = .ok (.iload_n 2, 1) := by decide +kernel
theorem dX8_willHear_77 : decode cX8_willHear 77 = .ok (.invokevirtual 256, 3) := by decide +kernel
theorem dX8_willHear_80 : decode cX8_willHear 80 = .ok (.ireturn, 1) := by decide +kernel
theorem dX8_dance_0 : decode cX8_dance 0 = .ok (.iload_n 1, 1) := by decide +kernel
theorem dX8_dance_1 : decode cX8_dance 1 = .ok (.ifCond .lt 19, 3) := by decide +kernel
theorem dX8_dance_4 : decode cX8_dance 4 = .ok (.iload_n 1, 1) := by decide +kernel
theorem dX8_dance_5 : decode cX8_dance 5 = .ok (.bipush 60, 2) := by decide +kernel
theorem dX8_dance_7 : decode cX8_dance 7 = .ok (.if_icmp .gt 13, 3) := by decide +kernel
theorem dX8_dance_10 : decode cX8_dance 10 = .ok (.iload_n 2, 1) := by decide +kernel
theorem dX8_dance_11 : decode cX8_dance 11 = .ok (.ifCond .lt 9, 3) := by decide +kernel
theorem dX8_dance_14 : decode cX8_dance 14 = .ok (.iload_n 2, 1) := by decide +kernel
theorem dX8_dance_15 : decode cX8_dance 15 = .ok (.bipush 100, 2) := by decide +kernel
theorem dX8_dance_17 : decode cX8_dance 17 = .ok (.if_icmp .le 6, 3) := by decide +kernel
theorem dX8_dance_20 : decode cX8_dance 20 = .ok (.ldc 65, 2) := by decide +kernel
theorem dX8_dance_22 : decode cX8_dance 22 = .ok (.ireturn, 1) := by decide +kernel
theorem dX8_dance_23 : decode cX8_dance 23 = .ok (.ldc2_w 259, 3) := by decide +kernel
theorem dX8_dance_26 : decode cX8_dance 26 = .ok (.lstore_n 3, 1) := by decide +kernel
theorem dX8_dance_27 : decode cX8_dance 27 = .ok (.iconst 0, 1) := by decide +kernel
theorem dX8_dance_28 : decode cX8_dance 28 = .ok (.istore 5, 2) := by decide +kernel
theorem dX8_dance_30 : decode cX8_dance 30 = .ok (.iload 5, 2) := by decide +kernel
theorem dX8_dance_32 : decode cX8_dance 32 = .ok (.iload_n 1, 1) := by decide +kernel
theorem dX8_dance_33 : decode cX8_dance 33 = .ok (.if_icmp .ge 21, 3) := by decide +kernel
theorem dX8_dance_36 : decode cX8_dance 36 = .ok (.lload_n 3, 1) := by decide +kernel
theorem dX8_dance_37 : decode cX8_dance 37 = .ok (.bipush 100, 2) := by decide +kernel
theorem dX8_dance_39 : decode cX8_dance 39 = .ok (.iload_n 2, 1) := by decide +kernel
theorem dX8_dance_40 : decode cX8_dance 40 = .ok (.isub, 1) := by decide +kernel
theorem dX8_dance_41 : decode cX8_dance 41 = .ok (.i2l, 1) := by decide +kernel
theorem dX8_dance_42 : decode cX8_dance 42 = .ok (.lmul, 1) := by decide +kernel
theorem dX8_dance_43 : decode cX8_dance 43 = .ok (.ldc2_w 261, 3) := by decide +kernel
theorem dX8_dance_46 : decode cX8_dance 46 = .ok (.ldiv, 1) := by decide +kernel
theorem dX8_dance_47 : decode cX8_dance 47 = .ok (.lstore_n 3, 1) := by decide +kernel
theorem dX8_dance_48 : decode cX8_dance 48 = .ok (.iinc 5 1, 3) := by decide +kernel
theorem dX8_dance_51 : decode cX8_dance 51 = .ok (.goto (-21), 3) := by decide +kernel
theorem dX8_dance_54 : decode cX8_dance 54 = .ok (.lload_n 3, 1) := by decide +kernel
theorem dX8_dance_55 : decode cX8_dance 55 = .ok (.l2i, 1) := by decide +kernel
theorem dX8_dance_56 : decode cX8_dance 56 = .ok (.ireturn, 1) := by decide +kernel
theorem dX8_fit_0 : decode cX8_fit 0 = .ok (.aload_n 0, 1) := by decide +kernel
theorem dX8_fit_1 : decode cX8_fit 1 = .ok (.getfield 26, 3) := by decide +kernel
theorem dX8_fit_4 : decode cX8_fit 4 = .ok (.getfield 143, 3) := by decide +kernel
theorem dX8_fit_7 : decode cX8_fit 7 = .ok (.invokevirtual 263, 3) := by decide +kernel
theorem dX8_fit_10 : decode cX8_fit 10 = .ok (.lstore_n 2, 1) := by decide +kernel
theorem dX8_fit_11 : decode cX8_fit 11 = .ok (.iload_n 1, 1) := by decide +kernel
theorem dX8_fit_12 : decode cX8_fit 12 = .ok (.iconst (-1), 1) := by decide +kernel
theorem dX8_fit_13 : decode cX8_fit 13 = .ok (.if_icmp .ne 8, 3) := by decide +kernel
theorem dX8_fit_16 : decode cX8_fit 16 = .ok (.lload_n 2, 1) := by decide +kernel
theorem dX8_fit_17 : decode cX8_fit 17 = .ok (.invokestatic 267, 3) := by decide +kernel
theorem dX8_fit_20 : decode cX8_fit 20 = .ok (.ireturn, 1) := by decide +kernel
theorem dX8_fit_21 : decode cX8_fit 21 = .ok (.iconst 0, 1) := by decide +kernel
theorem dX8_fit_22 : decode cX8_fit 22 = .ok (.istore 4, 2) := by decide +kernel
theorem dX8_fit_24 : decode cX8_fit 24 = .ok (.iconst 0, 1) := by decide +kernel
theorem dX8_fit_25 : decode cX8_fit 25 = .ok (.istore 5, 2) := by decide +kernel
theorem dX8_fit_27 : decode cX8_fit 27 = .ok (.iload 5, 2) := by decide +kernel
theorem dX8_fit_29 : decode cX8_fit 29 = .ok (.bipush 64, 2) := by decide +kernel
theorem dX8_fit_31 : decode cX8_fit 31 = .ok (.if_icmp .ge 32, 3) := by decide +kernel
theorem dX8_fit_34 : decode cX8_fit 34 = .ok (.lload_n 2, 1) := by decide +kernel
theorem dX8_fit_35 : decode cX8_fit 35 = .ok (.iload 5, 2) := by decide +kernel
theorem dX8_fit_37 : decode cX8_fit 37 = .ok (.lushr, 1) := by decide +kernel
theorem dX8_fit_38 : decode cX8_fit 38 = .ok (.lconst 1, 1) := by decide +kernel
theorem dX8_fit_39 : decode cX8_fit 39 = .ok (.land, 1) := by decide +kernel
theorem dX8_fit_40 : decode cX8_fit 40 = .ok (.lconst 1, 1) := by decide +kernel
theorem dX8_fit_41 : decode cX8_fit 41 = .ok (.lcmp, 1) := by decide +kernel
theorem dX8_fit_42 : decode cX8_fit 42 = .ok (.ifCond .ne 15, 3) := by decide +kernel
theorem dX8_fit_45 : decode cX8_fit 45 = .ok (.iload 4, 2) := by decide +kernel
theorem dX8_fit_47 : decode cX8_fit 47 = .ok (.iload_n 1, 1) := by decide +kernel
theorem dX8_fit_48 : decode cX8_fit 48 = .ok (.if_icmp .ne 6, 3) := by decide +kernel
theorem dX8_fit_51 : decode cX8_fit 51 = .ok (.iload 5, 2) := by decide +kernel
theorem dX8_fit_53 : decode cX8_fit 53 = .ok (.ireturn, 1) := by decide +kernel
theorem dX8_fit_54 : decode cX8_fit 54 = .ok (.iinc 4 1, 3) := by decide +kernel
theorem dX8_fit_57 : decode cX8_fit 57 = .ok (.iinc 5 1, 3) := by decide +kernel
theorem dX8_fit_60 : decode cX8_fit 60 = .ok (.goto (-33), 3) := by decide +kernel
theorem dX8_fit_63 : decode cX8_fit 63 = .ok (.iconst (-1), 1) := by decide +kernel
theorem dX8_fit_64 : decode cX8_fit 64 = .ok (.ireturn, 1) := by decide +kernel
theorem dX8_tells_0 : decode cX8_tells 0 = .ok (.aload_n 0, 1) := by decide +kernel
theorem dX8_tells_1 : decode cX8_tells 1 = .ok (.getfield 26, 3) := by decide +kernel
theorem dX8_tells_4 : decode cX8_tells 4 = .ok (.getfield 143, 3) := by decide +kernel
theorem dX8_tells_7 : decode cX8_tells 7 = .ok (.invokevirtual 263, 3) := by decide +kernel
theorem dX8_tells_10 : decode cX8_tells 10 = .ok (.lstore_n 1, 1) := by decide +kernel
theorem dX8_tells_11 : decode cX8_tells 11 = .ok (.lload_n 1, 1) := by decide +kernel
theorem dX8_tells_12 : decode cX8_tells 12 = .ok (.invokestatic 267, 3) := by decide +kernel
theorem dX8_tells_15 : decode cX8_tells 15 = .ok (.istore_n 3, 1) := by decide +kernel
theorem dX8_tells_16 : decode cX8_tells 16 = .ok (.iconst (-1), 1) := by decide +kernel
theorem dX8_tells_17 : decode cX8_tells 17 = .ok (.istore 4, 2) := by decide +kernel
theorem dX8_tells_19 : decode cX8_tells 19 = .ok (.iconst 0, 1) := by decide +kernel
theorem dX8_tells_20 : decode cX8_tells 20 = .ok (.istore 5, 2) := by decide +kernel
theorem dX8_tells_22 : decode cX8_tells 22 = .ok (.iload 5, 2) := by decide +kernel
theorem dX8_tells_24 : decode cX8_tells 24 = .ok (.aload_n 0, 1) := by decide +kernel
theorem dX8_tells_25 : decode cX8_tells 25 = .ok (.getfield 19, 3) := by decide +kernel
theorem dX8_tells_28 : decode cX8_tells 28 = .ok (.getfield 98, 3) := by decide +kernel
theorem dX8_tells_31 : decode cX8_tells 31 = .ok (.if_icmp .ge 59, 3) := by decide +kernel
theorem dX8_tells_34 : decode cX8_tells 34 = .ok (.aload_n 0, 1) := by decide +kernel
theorem dX8_tells_35 : decode cX8_tells 35 = .ok (.getfield 53, 3) := by decide +kernel
theorem dX8_tells_38 : decode cX8_tells 38 = .ok (.aload_n 0, 1) := by decide +kernel
theorem dX8_tells_39 : decode cX8_tells 39 = .ok (.getfield 26, 3) := by decide +kernel
theorem dX8_tells_42 : decode cX8_tells 42 = .ok (.getfield 113, 3) := by decide +kernel
theorem dX8_tells_45 : decode cX8_tells 45 = .ok (.invokevirtual 226, 3) := by decide +kernel
theorem dX8_tells_48 : decode cX8_tells 48 = .ok (.aload_n 0, 1) := by decide +kernel
theorem dX8_tells_49 : decode cX8_tells 49 = .ok (.getfield 53, 3) := by decide +kernel
theorem dX8_tells_52 : decode cX8_tells 52 = .ok (.dup, 1) := by decide +kernel
theorem dX8_tells_53 : decode cX8_tells 53 = .ok (.getfield 128, 3) := by decide +kernel
theorem dX8_tells_56 : decode cX8_tells 56 = .ok (.iconst 1, 1) := by decide +kernel
theorem dX8_tells_57 : decode cX8_tells 57 = .ok (.iload 5, 2) := by decide +kernel
theorem dX8_tells_59 : decode cX8_tells 59 = .ok (.ishl, 1) := by decide +kernel
theorem dX8_tells_60 : decode cX8_tells 60 = .ok (.ixor, 1) := by decide +kernel
theorem dX8_tells_61 : decode cX8_tells 61 = .ok (.putfield 128, 3) := by decide +kernel
theorem dX8_tells_64 : decode cX8_tells 64 = .ok (.aload_n 0, 1) := by decide +kernel
theorem dX8_tells_65 : decode cX8_tells 65 = .ok (.lload_n 1, 1) := by decide +kernel
theorem dX8_tells_66 : decode cX8_tells 66 = .ok (.invokevirtual 273, 3) := by decide +kernel
theorem dX8_tells_69 : decode cX8_tells 69 = .ok (.istore 6, 2) := by decide +kernel
theorem dX8_tells_71 : decode cX8_tells 71 = .ok (.iload 6, 2) := by decide +kernel
theorem dX8_tells_73 : decode cX8_tells 73 = .ok (.iload_n 3, 1) := by decide +kernel
theorem dX8_tells_74 : decode cX8_tells 74 = .ok (.if_icmp .ge 10, 3) := by decide +kernel
theorem dX8_tells_77 : decode cX8_tells 77 = .ok (.iload 6, 2) := by decide +kernel
theorem dX8_tells_79 : decode cX8_tells 79 = .ok (.istore_n 3, 1) := by decide +kernel
theorem dX8_tells_80 : decode cX8_tells 80 = .ok (.iload 5, 2) := by decide +kernel
theorem dX8_tells_82 : decode cX8_tells 82 = .ok (.istore 4, 2) := by decide +kernel
theorem dX8_tells_84 : decode cX8_tells 84 = .ok (.iinc 5 1, 3) := by decide +kernel
theorem dX8_tells_87 : decode cX8_tells 87 = .ok (.goto (-65), 3) := by decide +kernel
theorem dX8_tells_90 : decode cX8_tells 90 = .ok (.iload 4, 2) := by decide +kernel
theorem dX8_tells_92 : decode cX8_tells 92 = .ok (.ireturn, 1) := by decide +kernel
theorem dX8_teachFor_0 : decode cX8_teachFor 0 = .ok (.iload_n 1, 1) := by decide +kernel
theorem dX8_teachFor_1 : decode cX8_teachFor 1 = .ok (.ifCond .lt 18, 3) := by decide +kernel
theorem dX8_teachFor_4 : decode cX8_teachFor 4 = .ok (.iload_n 1, 1) := by decide +kernel
theorem dX8_teachFor_5 : decode cX8_teachFor 5 = .ok (.ldc_w 276, 3) := by decide +kernel
theorem dX8_teachFor_8 : decode cX8_teachFor 8 = .ok (.if_icmp .gt 11, 3) := by decide +kernel
theorem dX8_teachFor_11 : decode cX8_teachFor 11 = .ok (.aload_n 0, 1) := by decide +kernel
theorem dX8_teachFor_12 : decode cX8_teachFor 12 = .ok (.iload_n 1, 1) := by decide +kernel
theorem dX8_teachFor_13 : decode cX8_teachFor 13 = .ok (.invokevirtual 277, 3) := by decide +kernel
theorem dX8_teachFor_16 : decode cX8_teachFor 16 = .ok (.ifCond .ne 6, 3) := by decide +kernel
theorem dX8_teachFor_19 : decode cX8_teachFor 19 = .ok (.ldc 65, 2) := by decide +kernel
theorem dX8_teachFor_21 : decode cX8_teachFor 21 = .ok (.ireturn, 1) := by decide +kernel
theorem dX8_teachFor_22 : decode cX8_teachFor 22 = .ok (.aload_n 0, 1) := by decide +kernel
theorem dX8_teachFor_23 : decode cX8_teachFor 23 = .ok (.getfield 19, 3) := by decide +kernel
theorem dX8_teachFor_26 : decode cX8_teachFor 26 = .ok (.getfield 98, 3) := by decide +kernel
theorem dX8_teachFor_29 : decode cX8_teachFor 29 = .ok (.ifCond .ne 6, 3) := by decide +kernel
theorem dX8_teachFor_32 : decode cX8_teachFor 32 = .ok (.ldc 216, 2) := by decide +kernel
theorem dX8_teachFor_34 : decode cX8_teachFor 34 = .ok (.ireturn, 1) := by decide +kernel
theorem dX8_teachFor_35 : decode cX8_teachFor 35 = .ok (.iconst (-1), 1) := by decide +kernel
theorem dX8_teachFor_36 : decode cX8_teachFor 36 = .ok (.istore_n 2, 1) := by decide +kernel
theorem dX8_teachFor_37 : decode cX8_teachFor 37 = .ok (.iconst 0, 1) := by decide +kernel
theorem dX8_teachFor_38 : decode cX8_teachFor 38 = .ok (.istore_n 3, 1) := by decide +kernel
theorem dX8_teachFor_39 : decode cX8_teachFor 39 = .ok (.iconst 0, 1) := by decide +kernel
theorem dX8_teachFor_40 : decode cX8_teachFor 40 = .ok (.istore 4, 2) := by decide +kernel
theorem dX8_teachFor_42 : decode cX8_teachFor 42 = .ok (.iload 4, 2) := by decide +kernel
theorem dX8_teachFor_44 : decode cX8_teachFor 44 = .ok (.bipush 64, 2) := by decide +kernel
theorem dX8_teachFor_46 : decode cX8_teachFor 46 = .ok (.if_icmp .ge 53, 3) := by decide +kernel
theorem dX8_teachFor_49 : decode cX8_teachFor 49 = .ok (.iload 4, 2) := by decide +kernel
theorem dX8_teachFor_51 : decode cX8_teachFor 51 = .ok (.aload_n 0, 1) := by decide +kernel
theorem dX8_teachFor_52 : decode cX8_teachFor 52 = .ok (.getfield 26, 3) := by decide +kernel
theorem dX8_teachFor_55 : decode cX8_teachFor 55 = .ok (.getfield 113, 3) := by decide +kernel
theorem dX8_teachFor_58 : decode cX8_teachFor 58 = .ok (.getfield 116, 3) := by decide +kernel
theorem dX8_teachFor_61 : decode cX8_teachFor 61 = .ok (.invokestatic 280, 3) := by decide +kernel
theorem dX8_teachFor_64 : decode cX8_teachFor 64 = .ok (.istore 5, 2) := by decide +kernel
theorem dX8_teachFor_66 : decode cX8_teachFor 66 = .ok (.iload_n 2, 1) := by decide +kernel
theorem dX8_teachFor_67 : decode cX8_teachFor 67 = .ok (.iconst (-1), 1) := by decide +kernel
theorem dX8_teachFor_68 : decode cX8_teachFor 68 = .ok (.if_icmp .eq 9, 3) := by decide +kernel
theorem dX8_teachFor_71 : decode cX8_teachFor 71 = .ok (.iload 5, 2) := by decide +kernel
theorem dX8_teachFor_73 : decode cX8_teachFor 73 = .ok (.iload_n 3, 1) := by decide +kernel
theorem dX8_teachFor_74 : decode cX8_teachFor 74 = .ok (.if_icmp .ge 19, 3) := by decide +kernel
theorem dX8_teachFor_77 : decode cX8_teachFor 77 = .ok (.aload_n 0, 1) := by decide +kernel
theorem dX8_teachFor_78 : decode cX8_teachFor 78 = .ok (.iload 4, 2) := by decide +kernel
theorem dX8_teachFor_80 : decode cX8_teachFor 80 = .ok (.iload_n 1, 1) := by decide +kernel
theorem dX8_teachFor_81 : decode cX8_teachFor 81 = .ok (.invokevirtual 283, 3) := by decide +kernel
theorem dX8_teachFor_84 : decode cX8_teachFor 84 = .ok (.ifCond .eq 9, 3) := by decide +kernel
theorem dX8_teachFor_87 : decode cX8_teachFor 87 = .ok (.iload 4, 2) := by decide +kernel
theorem dX8_teachFor_89 : decode cX8_teachFor 89 = .ok (.istore_n 2, 1) := by decide +kernel
theorem dX8_teachFor_90 : decode cX8_teachFor 90 = .ok (.iload 5, 2) := by decide +kernel
theorem dX8_teachFor_92 : decode cX8_teachFor 92 = .ok (.istore_n 3, 1) := by decide +kernel
theorem dX8_teachFor_93 : decode cX8_teachFor 93 = .ok (.iinc 4 1, 3) := by decide +kernel
theorem dX8_teachFor_96 : decode cX8_teachFor 96 = .ok (.goto (-54), 3) := by decide +kernel
theorem dX8_teachFor_99 : decode cX8_teachFor 99 = .ok (.iload_n 2, 1) := by decide +kernel
theorem dX8_teachFor_100 : decode cX8_teachFor 100 = .ok (.ireturn, 1) := by decide +kernel
theorem dX8_otherwise_0 : decode cX8_otherwise 0 = .ok (.iload_n 1, 1) := by decide +kernel
theorem dX8_otherwise_1 : decode cX8_otherwise 1 = .ok (.invokestatic 217, 3) := by decide +kernel
theorem dX8_otherwise_4 : decode cX8_otherwise 4 = .ok (.ifCond .eq 6, 3) := by decide +kernel
theorem dX8_otherwise_7 : decode cX8_otherwise 7 = .ok (.ldc 155, 2) := by decide +kernel
theorem dX8_otherwise_9 : decode cX8_otherwise 9 = .ok (.ireturn, 1) := by decide +kernel
theorem dX8_otherwise_10 : decode cX8_otherwise 10 = .ok (.aload_n 0, 1) := by decide +kernel
theorem dX8_otherwise_11 : decode cX8_otherwise 11 = .ok (.getfield 19, 3) := by decide +kernel
theorem dX8_otherwise_14 : decode cX8_otherwise 14 = .ok (.getfield 98, 3) := by decide +kernel
theorem dX8_otherwise_17 : decode cX8_otherwise 17 = .ok (.ifCond .ne 6, 3) := by decide +kernel
theorem dX8_otherwise_20 : decode cX8_otherwise 20 = .ok (.ldc 216, 2) := by decide +kernel
theorem dX8_otherwise_22 : decode cX8_otherwise 22 = .ok (.ireturn, 1) := by decide +kernel
theorem dX8_otherwise_23 : decode cX8_otherwise 23 = .ok (.aload_n 0, 1) := by decide +kernel
theorem dX8_otherwise_24 : decode cX8_otherwise 24 = .ok (.getfield 53, 3) := by decide +kernel
theorem dX8_otherwise_27 : decode cX8_otherwise 27 = .ok (.aload_n 0, 1) := by decide +kernel
theorem dX8_otherwise_28 : decode cX8_otherwise 28 = .ok (.getfield 26, 3) := by decide +kernel
theorem dX8_otherwise_31 : decode cX8_otherwise 31 = .ok (.getfield 113, 3) := by decide +kernel
theorem dX8_otherwise_34 : decode cX8_otherwise 34 = .ok (.invokevirtual 226, 3) := by decide +kernel
theorem dX8_otherwise_37 : decode cX8_otherwise 37 = .ok (.aload_n 0, 1) := by decide +kernel
theorem dX8_otherwise_38 : decode cX8_otherwise 38 = .ok (.getfield 57, 3) := by decide +kernel
theorem dX8_otherwise_41 : decode cX8_otherwise 41 = .ok (.aload_n 0, 1) := by decide +kernel
theorem dX8_otherwise_42 : decode cX8_otherwise 42 = .ok (.getfield 26, 3) := by decide +kernel
theorem dX8_otherwise_45 : decode cX8_otherwise 45 = .ok (.getfield 113, 3) := by decide +kernel
theorem dX8_otherwise_48 : decode cX8_otherwise 48 = .ok (.invokevirtual 226, 3) := by decide +kernel
theorem dX8_otherwise_51 : decode cX8_otherwise 51 = .ok (.aload_n 0, 1) := by decide +kernel
theorem dX8_otherwise_52 : decode cX8_otherwise 52 = .ok (.getfield 57, 3) := by decide +kernel
