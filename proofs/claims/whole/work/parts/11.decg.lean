theorem dX5_save_0 : decode cX5_save 0 = .ok (.iload_n 1, 1) := by decide +kernel
theorem dX5_save_1 : decode cX5_save 1 = .ok (.iconst 0, 1) := by decide +kernel
theorem dX5_save_2 : decode cX5_save 2 = .ok (.iconst 1, 1) := by decide +kernel
theorem dX5_save_3 : decode cX5_save 3 = .ok (.invokestatic 84, 3) := by decide +kernel
theorem dX5_save_6 : decode cX5_save 6 = .ok (.ifCond .ne 6, 3) := by decide +kernel
theorem dX5_save_9 : decode cX5_save 9 = .ok (.bipush (-4), 2) := by decide +kernel
theorem dX5_save_11 : decode cX5_save 11 = .ok (.ireturn, 1) := by decide +kernel
theorem dX5_save_12 : decode cX5_save 12 = .ok (.iconst 0, 1) := by decide +kernel
theorem dX5_save_13 : decode cX5_save 13 = .ok (.istore_n 2, 1) := by decide +kernel
theorem dX5_save_14 : decode cX5_save 14 = .ok (.iload_n 2, 1) := by decide +kernel
theorem dX5_save_15 : decode cX5_save 15 = .ok (.sipush 148, 3) := by decide +kernel
theorem dX5_save_18 : decode cX5_save 18 = .ok (.if_icmp .ge 27, 3) := by decide +kernel
theorem dX5_save_21 : decode cX5_save 21 = .ok (.aload_n 0, 1) := by decide +kernel
theorem dX5_save_22 : decode cX5_save 22 = .ok (.getfield 13, 3) := by decide +kernel
theorem dX5_save_25 : decode cX5_save 25 = .ok (.sipush 148, 3) := by decide +kernel
theorem dX5_save_28 : decode cX5_save 28 = .ok (.iload_n 1, 1) := by decide +kernel
theorem dX5_save_29 : decode cX5_save 29 = .ok (.imul, 1) := by decide +kernel
theorem dX5_save_30 : decode cX5_save 30 = .ok (.iload_n 2, 1) := by decide +kernel
theorem dX5_save_31 : decode cX5_save 31 = .ok (.iadd, 1) := by decide +kernel
theorem dX5_save_32 : decode cX5_save 32 = .ok (.aload_n 0, 1) := by decide +kernel
theorem dX5_save_33 : decode cX5_save 33 = .ok (.getfield 7, 3) := by decide +kernel
theorem dX5_save_36 : decode cX5_save 36 = .ok (.iload_n 2, 1) := by decide +kernel
theorem dX5_save_37 : decode cX5_save 37 = .ok (.iaload, 1) := by decide +kernel
theorem dX5_save_38 : decode cX5_save 38 = .ok (.iastore, 1) := by decide +kernel
theorem dX5_save_39 : decode cX5_save 39 = .ok (.iinc 2 1, 3) := by decide +kernel
theorem dX5_save_42 : decode cX5_save 42 = .ok (.goto (-28), 3) := by decide +kernel
theorem dX5_save_45 : decode cX5_save 45 = .ok (.aload_n 0, 1) := by decide +kernel
theorem dX5_save_46 : decode cX5_save 46 = .ok (.getfield 16, 3) := by decide +kernel
theorem dX5_save_49 : decode cX5_save 49 = .ok (.iload_n 1, 1) := by decide +kernel
theorem dX5_save_50 : decode cX5_save 50 = .ok (.iconst 1, 1) := by decide +kernel
theorem dX5_save_51 : decode cX5_save 51 = .ok (.bastore, 1) := by decide +kernel
theorem dX5_save_52 : decode cX5_save 52 = .ok (.aload_n 0, 1) := by decide +kernel
theorem dX5_save_53 : decode cX5_save 53 = .ok (.getfield 7, 3) := by decide +kernel
theorem dX5_save_56 : decode cX5_save 56 = .ok (.bipush 14, 2) := by decide +kernel
theorem dX5_save_58 : decode cX5_save 58 = .ok (.iaload, 1) := by decide +kernel
theorem dX5_save_59 : decode cX5_save 59 = .ok (.ireturn, 1) := by decide +kernel
theorem dX5_restore_0 : decode cX5_restore 0 = .ok (.iload_n 1, 1) := by decide +kernel
theorem dX5_restore_1 : decode cX5_restore 1 = .ok (.iconst 0, 1) := by decide +kernel
theorem dX5_restore_2 : decode cX5_restore 2 = .ok (.iconst 1, 1) := by decide +kernel
theorem dX5_restore_3 : decode cX5_restore 3 = .ok (.invokestatic 84, 3) := by decide +kernel
theorem dX5_restore_6 : decode cX5_restore 6 = .ok (.ifCond .ne 6, 3) := by decide +kernel
theorem dX5_restore_9 : decode cX5_restore 9 = .ok (.bipush (-4), 2) := by decide +kernel
theorem dX5_restore_11 : decode cX5_restore 11 = .ok (.ireturn, 1) := by decide +kernel
theorem dX5_restore_12 : decode cX5_restore 12 = .ok (.aload_n 0, 1) := by decide +kernel
theorem dX5_restore_13 : decode cX5_restore 13 = .ok (.getfield 16, 3) := by decide +kernel
theorem dX5_restore_16 : decode cX5_restore 16 = .ok (.iload_n 1, 1) := by decide +kernel
theorem dX5_restore_17 : decode cX5_restore 17 = .ok (.baload, 1) := by decide +kernel
theorem dX5_restore_18 : decode cX5_restore 18 = .ok (.ifCond .ne 6, 3) := by decide +kernel
theorem dX5_restore_21 : decode cX5_restore 21 = .ok (.bipush (-10), 2) := by decide +kernel
theorem dX5_restore_23 : decode cX5_restore 23 = .ok (.ireturn, 1) := by decide +kernel
theorem dX5_restore_24 : decode cX5_restore 24 = .ok (.iconst 0, 1) := by decide +kernel
theorem dX5_restore_25 : decode cX5_restore 25 = .ok (.istore_n 2, 1) := by decide +kernel
theorem dX5_restore_26 : decode cX5_restore 26 = .ok (.iload_n 2, 1) := by decide +kernel
theorem dX5_restore_27 : decode cX5_restore 27 = .ok (.sipush 148, 3) := by decide +kernel
theorem dX5_restore_30 : decode cX5_restore 30 = .ok (.if_icmp .ge 27, 3) := by decide +kernel
theorem dX5_restore_33 : decode cX5_restore 33 = .ok (.aload_n 0, 1) := by decide +kernel
theorem dX5_restore_34 : decode cX5_restore 34 = .ok (.getfield 7, 3) := by decide +kernel
theorem dX5_restore_37 : decode cX5_restore 37 = .ok (.iload_n 2, 1) := by decide +kernel
theorem dX5_restore_38 : decode cX5_restore 38 = .ok (.aload_n 0, 1) := by decide +kernel
theorem dX5_restore_39 : decode cX5_restore 39 = .ok (.getfield 13, 3) := by decide +kernel
theorem dX5_restore_42 : decode cX5_restore 42 = .ok (.sipush 148, 3) := by decide +kernel
theorem dX5_restore_45 : decode cX5_restore 45 = .ok (.iload_n 1, 1) := by decide +kernel
theorem dX5_restore_46 : decode cX5_restore 46 = .ok (.imul, 1) := by decide +kernel
theorem dX5_restore_47 : decode cX5_restore 47 = .ok (.iload_n 2, 1) := by decide +kernel
theorem dX5_restore_48 : decode cX5_restore 48 = .ok (.iadd, 1) := by decide +kernel
theorem dX5_restore_49 : decode cX5_restore 49 = .ok (.iaload, 1) := by decide +kernel
theorem dX5_restore_50 : decode cX5_restore 50 = .ok (.iastore, 1) := by decide +kernel
theorem dX5_restore_51 : decode cX5_restore 51 = .ok (.iinc 2 1, 3) := by decide +kernel
theorem dX5_restore_54 : decode cX5_restore 54 = .ok (.goto (-28), 3) := by decide +kernel
theorem dX5_restore_57 : decode cX5_restore 57 = .ok (.aload_n 0, 1) := by decide +kernel
theorem dX5_restore_58 : decode cX5_restore 58 = .ok (.invokevirtual 100, 3) := by decide +kernel
theorem dX5_restore_61 : decode cX5_restore 61 = .ok (.aload_n 0, 1) := by decide +kernel
theorem dX5_restore_62 : decode cX5_restore 62 = .ok (.getfield 7, 3) := by decide +kernel
theorem dX5_restore_65 : decode cX5_restore 65 = .ok (.bipush 14, 2) := by decide +kernel
theorem dX5_restore_67 : decode cX5_restore 67 = .ok (.iaload, 1) := by decide +kernel
theorem dX5_restore_68 : decode cX5_restore 68 = .ok (.ireturn, 1) := by decide +kernel
theorem dX4_houseChanges_0 : decode cX4_houseChanges 0 = .ok (.aload_n 0, 1) := by decide +kernel
theorem dX4_houseChanges_1 : decode cX4_houseChanges 1 = .ok (.getfield 23, 3) := by decide +kernel
theorem dX4_houseChanges_4 : decode cX4_houseChanges 4 = .ok (.invokevirtual 165, 3) := by decide +kernel
theorem dX4_houseChanges_7 : decode cX4_houseChanges 7 = .ok (.aload_n 0, 1) := by decide +kernel
theorem dX4_houseChanges_8 : decode cX4_houseChanges 8 = .ok (.getfield 168, 3) := by decide +kernel
theorem dX4_houseChanges_11 : decode cX4_houseChanges 11 = .ok (.ifnull 10, 3) := by decide +kernel
theorem dX4_houseChanges_14 : decode cX4_houseChanges 14 = .ok (.aload_n 0, 1) := by decide +kernel
theorem dX4_houseChanges_15 : decode cX4_houseChanges 15 = .ok (.getfield 168, 3) := by decide +kernel
theorem dX4_houseChanges_18 : decode cX4_houseChanges 18 = .ok (.invokevirtual 172, 3) := by decide +kernel
theorem dX4_houseChanges_21 : decode cX4_houseChanges 21 = .ok (.return_, 1) := by decide +kernel
theorem dX4_changeLength_0 : decode cX4_changeLength 0 = .ok (.iload_n 2, 1) := by decide +kernel
theorem dX4_changeLength_1 : decode cX4_changeLength 1 = .ok (.aload_n 0, 1) := by decide +kernel
theorem dX4_changeLength_2 : decode cX4_changeLength 2 = .ok (.getfield 12, 3) := by decide +kernel
theorem dX4_changeLength_5 : decode cX4_changeLength 5 = .ok (.iload_n 1, 1) := by decide +kernel
theorem dX4_changeLength_6 : decode cX4_changeLength 6 = .ok (.invokevirtual 149, 3) := by decide +kernel
theorem dX4_changeLength_9 : decode cX4_changeLength 9 = .ok (.if_icmp .ge 6, 3) := by decide +kernel
theorem dX4_changeLength_12 : decode cX4_changeLength 12 = .ok (.bipush (-5), 2) := by decide +kernel
theorem dX4_changeLength_14 : decode cX4_changeLength 14 = .ok (.ireturn, 1) := by decide +kernel
theorem dX4_changeLength_15 : decode cX4_changeLength 15 = .ok (.aload_n 0, 1) := by decide +kernel
theorem dX4_changeLength_16 : decode cX4_changeLength 16 = .ok (.getfield 12, 3) := by decide +kernel
theorem dX4_changeLength_19 : decode cX4_changeLength 19 = .ok (.iload_n 1, 1) := by decide +kernel
theorem dX4_changeLength_20 : decode cX4_changeLength 20 = .ok (.invokevirtual 35, 3) := by decide +kernel
theorem dX4_changeLength_23 : decode cX4_changeLength 23 = .ok (.istore_n 3, 1) := by decide +kernel
theorem dX4_changeLength_24 : decode cX4_changeLength 24 = .ok (.aload_n 0, 1) := by decide +kernel
theorem dX4_changeLength_25 : decode cX4_changeLength 25 = .ok (.invokevirtual 46, 3) := by decide +kernel
theorem dX4_changeLength_28 : decode cX4_changeLength 28 = .ok (.aload_n 0, 1) := by decide +kernel
theorem dX4_changeLength_29 : decode cX4_changeLength 29 = .ok (.getfield 12, 3) := by decide +kernel
theorem dX4_changeLength_32 : decode cX4_changeLength 32 = .ok (.iload_n 1, 1) := by decide +kernel
theorem dX4_changeLength_33 : decode cX4_changeLength 33 = .ok (.iload_n 2, 1) := by decide +kernel
theorem dX4_changeLength_34 : decode cX4_changeLength 34 = .ok (.invokevirtual 152, 3) := by decide +kernel
theorem dX4_changeLength_37 : decode cX4_changeLength 37 = .ok (.iload_n 3, 1) := by decide +kernel
theorem dX4_changeLength_38 : decode cX4_changeLength 38 = .ok (.ireturn, 1) := by decide +kernel
theorem dX4_setTrack_0 : decode cX4_setTrack 0 = .ok (.iload_n 1, 1) := by decide +kernel
theorem dX4_setTrack_1 : decode cX4_setTrack 1 = .ok (.invokestatic 27, 3) := by decide +kernel
theorem dX4_setTrack_4 : decode cX4_setTrack 4 = .ok (.ifCond .ne 5, 3) := by decide +kernel
theorem dX4_setTrack_7 : decode cX4_setTrack 7 = .ok (.iconst (-1), 1) := by decide +kernel
theorem dX4_setTrack_8 : decode cX4_setTrack 8 = .ok (.ireturn, 1) := by decide +kernel
theorem dX4_setTrack_9 : decode cX4_setTrack 9 = .ok (.iload_n 2, 1) := by decide +kernel
theorem dX4_setTrack_10 : decode cX4_setTrack 10 = .ok (.ifCond .lt 9, 3) := by decide +kernel
theorem dX4_setTrack_13 : decode cX4_setTrack 13 = .ok (.iload_n 2, 1) := by decide +kernel
theorem dX4_setTrack_14 : decode cX4_setTrack 14 = .ok (.bipush 60, 2) := by decide +kernel
theorem dX4_setTrack_16 : decode cX4_setTrack 16 = .ok (.if_icmp .le 6, 3) := by decide +kernel
theorem dX4_setTrack_19 : decode cX4_setTrack 19 = .ok (.bipush (-4), 2) := by decide +kernel
theorem dX4_setTrack_21 : decode cX4_setTrack 21 = .ok (.ireturn, 1) := by decide +kernel
theorem dX4_setTrack_22 : decode cX4_setTrack 22 = .ok (.aload_n 0, 1) := by decide +kernel
theorem dX4_setTrack_23 : decode cX4_setTrack 23 = .ok (.iload_n 1, 1) := by decide +kernel
theorem dX4_setTrack_24 : decode cX4_setTrack 24 = .ok (.iload_n 2, 1) := by decide +kernel
theorem dX4_setTrack_25 : decode cX4_setTrack 25 = .ok (.invokevirtual 31, 3) := by decide +kernel
theorem dX4_setTrack_28 : decode cX4_setTrack 28 = .ok (.ireturn, 1) := by decide +kernel
theorem dX4_setTableLength_0 : decode cX4_setTableLength 0 = .ok (.iload_n 1, 1) := by decide +kernel
theorem dX4_setTableLength_1 : decode cX4_setTableLength 1 = .ok (.iconst 1, 1) := by decide +kernel
theorem dX4_setTableLength_2 : decode cX4_setTableLength 2 = .ok (.if_icmp .lt 9, 3) := by decide +kernel
theorem dX4_setTableLength_5 : decode cX4_setTableLength 5 = .ok (.iload_n 1, 1) := by decide +kernel
theorem dX4_setTableLength_6 : decode cX4_setTableLength 6 = .ok (.bipush 60, 2) := by decide +kernel
theorem dX4_setTableLength_8 : decode cX4_setTableLength 8 = .ok (.if_icmp .le 6, 3) := by decide +kernel
theorem dX4_setTableLength_11 : decode cX4_setTableLength 11 = .ok (.bipush (-4), 2) := by decide +kernel
theorem dX4_setTableLength_13 : decode cX4_setTableLength 13 = .ok (.ireturn, 1) := by decide +kernel
theorem dX4_setTableLength_14 : decode cX4_setTableLength 14 = .ok (.aload_n 0, 1) := by decide +kernel
theorem dX4_setTableLength_15 : decode cX4_setTableLength 15 = .ok (.bipush 12, 2) := by decide +kernel
theorem dX4_setTableLength_17 : decode cX4_setTableLength 17 = .ok (.iload_n 1, 1) := by decide +kernel
theorem dX4_setTableLength_18 : decode cX4_setTableLength 18 = .ok (.invokevirtual 31, 3) := by decide +kernel
theorem dX4_setTableLength_21 : decode cX4_setTableLength 21 = .ok (.ireturn, 1) := by decide +kernel
theorem dX4_addLocomotive_0 : decode cX4_addLocomotive 0 = .ok (.iload_n 2, 1) := by decide +kernel
theorem dX4_addLocomotive_1 : decode cX4_addLocomotive 1 = .ok (.invokestatic 27, 3) := by decide +kernel
theorem dX4_addLocomotive_4 : decode cX4_addLocomotive 4 = .ok (.ifCond .ne 5, 3) := by decide +kernel
theorem dX4_addLocomotive_7 : decode cX4_addLocomotive 7 = .ok (.iconst (-1), 1) := by decide +kernel
theorem dX4_addLocomotive_8 : decode cX4_addLocomotive 8 = .ok (.ireturn, 1) := by decide +kernel
theorem dX4_addLocomotive_9 : decode cX4_addLocomotive 9 = .ok (.aload_n 0, 1) := by decide +kernel
theorem dX4_addLocomotive_10 : decode cX4_addLocomotive 10 = .ok (.getfield 12, 3) := by decide +kernel
theorem dX4_addLocomotive_13 : decode cX4_addLocomotive 13 = .ok (.iload_n 2, 1) := by decide +kernel
theorem dX4_addLocomotive_14 : decode cX4_addLocomotive 14 = .ok (.invokevirtual 35, 3) := by decide +kernel
theorem dX4_addLocomotive_17 : decode cX4_addLocomotive 17 = .ok (.ifCond .ne 6, 3) := by decide +kernel
theorem dX4_addLocomotive_20 : decode cX4_addLocomotive 20 = .ok (.bipush (-2), 2) := by decide +kernel
theorem dX4_addLocomotive_22 : decode cX4_addLocomotive 22 = .ok (.ireturn, 1) := by decide +kernel
theorem dX4_addLocomotive_23 : decode cX4_addLocomotive 23 = .ok (.iload_n 1, 1) := by decide +kernel
theorem dX4_addLocomotive_24 : decode cX4_addLocomotive 24 = .ok (.iconst 1, 1) := by decide +kernel
theorem dX4_addLocomotive_25 : decode cX4_addLocomotive 25 = .ok (.if_icmp .lt 9, 3) := by decide +kernel
theorem dX4_addLocomotive_28 : decode cX4_addLocomotive 28 = .ok (.iload_n 1, 1) := by decide +kernel
theorem dX4_addLocomotive_29 : decode cX4_addLocomotive 29 = .ok (.bipush 20, 2) := by decide +kernel
theorem dX4_addLocomotive_31 : decode cX4_addLocomotive 31 = .ok (.if_icmp .le 6, 3) := by decide +kernel
theorem dX4_addLocomotive_34 : decode cX4_addLocomotive 34 = .ok (.bipush (-4), 2) := by decide +kernel
theorem dX4_addLocomotive_36 : decode cX4_addLocomotive 36 = .ok (.ireturn, 1) := by decide +kernel
theorem dX4_addLocomotive_37 : decode cX4_addLocomotive 37 = .ok (.iload_n 1, 1) := by decide +kernel
theorem dX4_addLocomotive_38 : decode cX4_addLocomotive 38 = .ok (.aload_n 0, 1) := by decide +kernel
theorem dX4_addLocomotive_39 : decode cX4_addLocomotive 39 = .ok (.getfield 12, 3) := by decide +kernel
theorem dX4_addLocomotive_42 : decode cX4_addLocomotive 42 = .ok (.iload_n 2, 1) := by decide +kernel
theorem dX4_addLocomotive_43 : decode cX4_addLocomotive 43 = .ok (.invokevirtual 39, 3) := by decide +kernel
theorem dX4_addLocomotive_46 : decode cX4_addLocomotive 46 = .ok (.if_icmp .le 6, 3) := by decide +kernel
theorem dX4_addLocomotive_49 : decode cX4_addLocomotive 49 = .ok (.bipush (-8), 2) := by decide +kernel
theorem dX4_addLocomotive_51 : decode cX4_addLocomotive 51 = .ok (.ireturn, 1) := by decide +kernel
theorem dX4_addLocomotive_52 : decode cX4_addLocomotive 52 = .ok (.aload_n 0, 1) := by decide +kernel
theorem dX4_addLocomotive_53 : decode cX4_addLocomotive 53 = .ok (.getfield 12, 3) := by decide +kernel
theorem dX4_addLocomotive_56 : decode cX4_addLocomotive 56 = .ok (.getfield 42, 3) := by decide +kernel
theorem dX4_addLocomotive_59 : decode cX4_addLocomotive 59 = .ok (.bipush 8, 2) := by decide +kernel
theorem dX4_addLocomotive_61 : decode cX4_addLocomotive 61 = .ok (.if_icmp .lt 6, 3) := by decide +kernel
theorem dX4_addLocomotive_64 : decode cX4_addLocomotive 64 = .ok (.bipush (-9), 2) := by decide +kernel
theorem dX4_addLocomotive_66 : decode cX4_addLocomotive 66 = .ok (.ireturn, 1) := by decide +kernel
theorem dX4_addLocomotive_67 : decode cX4_addLocomotive 67 = .ok (.aload_n 0, 1) := by decide +kernel
theorem dX4_addLocomotive_68 : decode cX4_addLocomotive 68 = .ok (.invokevirtual 46, 3) := by decide +kernel
theorem dX4_addLocomotive_71 : decode cX4_addLocomotive 71 = .ok (.aload_n 0, 1) := by decide +kernel
theorem dX4_addLocomotive_72 : decode cX4_addLocomotive 72 = .ok (.getfield 12, 3) := by decide +kernel
theorem dX4_addLocomotive_75 : decode cX4_addLocomotive 75 = .ok (.iload_n 1, 1) := by decide +kernel
theorem dX4_addLocomotive_76 : decode cX4_addLocomotive 76 = .ok (.iload_n 2, 1) := by decide +kernel
theorem dX4_addLocomotive_77 : decode cX4_addLocomotive 77 = .ok (.invokevirtual 49, 3) := by decide +kernel
theorem dX4_addLocomotive_80 : decode cX4_addLocomotive 80 = .ok (.ireturn, 1) := by decide +kernel
theorem dX4_removeLocomotive_0 : decode cX4_removeLocomotive 0 = .ok (.aload_n 0, 1) := by decide +kernel
theorem dX4_removeLocomotive_1 : decode cX4_removeLocomotive 1 = .ok (.getfield 12, 3) := by decide +kernel
theorem dX4_removeLocomotive_4 : decode cX4_removeLocomotive 4 = .ok (.getfield 42, 3) := by decide +kernel
theorem dX4_removeLocomotive_7 : decode cX4_removeLocomotive 7 = .ok (.ifCond .ne 6, 3) := by decide +kernel
theorem dX4_removeLocomotive_10 : decode cX4_removeLocomotive 10 = .ok (.bipush (-11), 2) := by decide +kernel
theorem dX4_removeLocomotive_12 : decode cX4_removeLocomotive 12 = .ok (.ireturn, 1) := by decide +kernel
theorem dX4_removeLocomotive_13 : decode cX4_removeLocomotive 13 = .ok (.aload_n 0, 1) := by decide +kernel
theorem dX4_removeLocomotive_14 : decode cX4_removeLocomotive 14 = .ok (.invokevirtual 46, 3) := by decide +kernel
theorem dX4_removeLocomotive_17 : decode cX4_removeLocomotive 17 = .ok (.aload_n 0, 1) := by decide +kernel
theorem dX4_removeLocomotive_18 : decode cX4_removeLocomotive 18 = .ok (.getfield 12, 3) := by decide +kernel
theorem dX4_removeLocomotive_21 : decode cX4_removeLocomotive 21 = .ok (.invokevirtual 52, 3) := by decide +kernel
theorem dX4_removeLocomotive_24 : decode cX4_removeLocomotive 24 = .ok (.ireturn, 1) := by decide +kernel
theorem dX4_setDead_0 : decode cX4_setDead 0 = .ok (.aload_n 0, 1) := by decide +kernel
theorem dX4_setDead_1 : decode cX4_setDead 1 = .ok (.getfield 12, 3) := by decide +kernel
theorem dX4_setDead_4 : decode cX4_setDead 4 = .ok (.iload_n 1, 1) := by decide +kernel
theorem dX4_setDead_5 : decode cX4_setDead 5 = .ok (.invokevirtual 56, 3) := by decide +kernel
theorem dX4_setDead_8 : decode cX4_setDead 8 = .ok (.ifCond .ne 6, 3) := by decide +kernel
theorem dX4_setDead_11 : decode cX4_setDead 11 = .ok (.bipush (-3), 2) := by decide +kernel
theorem dX4_setDead_13 : decode cX4_setDead 13 = .ok (.ireturn, 1) := by decide +kernel
theorem dX4_setDead_14 : decode cX4_setDead 14 = .ok (.aload_n 0, 1) := by decide +kernel
theorem dX4_setDead_15 : decode cX4_setDead 15 = .ok (.getfield 12, 3) := by decide +kernel
theorem dX4_setDead_18 : decode cX4_setDead 18 = .ok (.iload_n 1, 1) := by decide +kernel
theorem dX4_setDead_19 : decode cX4_setDead 19 = .ok (.invokevirtual 59, 3) := by decide +kernel
theorem dX4_setDead_22 : decode cX4_setDead 22 = .ok (.ifCond .eq 7, 3) := by decide +kernel
theorem dX4_setDead_25 : decode cX4_setDead 25 = .ok (.iconst 0, 1) := by decide +kernel
theorem dX4_setDead_26 : decode cX4_setDead 26 = .ok (.goto 4, 3) := by decide +kernel
theorem dX4_setDead_29 : decode cX4_setDead 29 = .ok (.iconst 1, 1) := by decide +kernel
theorem dX4_setDead_30 : decode cX4_setDead 30 = .ok (.istore_n 3, 1) := by decide +kernel
theorem dX4_setDead_31 : decode cX4_setDead 31 = .ok (.aload_n 0, 1) := by decide +kernel
theorem dX4_setDead_32 : decode cX4_setDead 32 = .ok (.invokevirtual 46, 3) := by decide +kernel
theorem dX4_setDead_35 : decode cX4_setDead 35 = .ok (.aload_n 0, 1) := by decide +kernel
theorem dX4_setDead_36 : decode cX4_setDead 36 = .ok (.getfield 12, 3) := by decide +kernel
theorem dX4_setDead_39 : decode cX4_setDead 39 = .ok (.iload_n 1, 1) := by decide +kernel
theorem dX4_setDead_40 : decode cX4_setDead 40 = .ok (.iload_n 2, 1) := by decide +kernel
theorem dX4_setDead_41 : decode cX4_setDead 41 = .ok (.invokevirtual 62, 3) := by decide +kernel
theorem dX4_setDead_44 : decode cX4_setDead 44 = .ok (.iload_n 3, 1) := by decide +kernel
theorem dX4_setDead_45 : decode cX4_setDead 45 = .ok (.ireturn, 1) := by decide +kernel
theorem dX4_locomotives_0 : decode cX4_locomotives 0 = .ok (.aload_n 0, 1) := by decide +kernel
theorem dX4_locomotives_1 : decode cX4_locomotives 1 = .ok (.getfield 12, 3) := by decide +kernel
theorem dX4_locomotives_4 : decode cX4_locomotives 4 = .ok (.getfield 42, 3) := by decide +kernel
theorem dX4_locomotives_7 : decode cX4_locomotives 7 = .ok (.ireturn, 1) := by decide +kernel
theorem dX4_trackLength_0 : decode cX4_trackLength 0 = .ok (.iload_n 1, 1) := by decide +kernel
theorem dX4_trackLength_1 : decode cX4_trackLength 1 = .ok (.invokestatic 27, 3) := by decide +kernel
theorem dX4_trackLength_4 : decode cX4_trackLength 4 = .ok (.ifCond .eq 14, 3) := by decide +kernel
theorem dX4_trackLength_7 : decode cX4_trackLength 7 = .ok (.aload_n 0, 1) := by decide +kernel
theorem dX4_trackLength_8 : decode cX4_trackLength 8 = .ok (.getfield 12, 3) := by decide +kernel
theorem dX4_trackLength_11 : decode cX4_trackLength 11 = .ok (.iload_n 1, 1) := by decide +kernel
theorem dX4_trackLength_12 : decode cX4_trackLength 12 = .ok (.invokevirtual 35, 3) := by decide +kernel
theorem dX4_trackLength_15 : decode cX4_trackLength 15 = .ok (.goto 4, 3) := by decide +kernel
theorem dX4_trackLength_18 : decode cX4_trackLength 18 = .ok (.iconst (-1), 1) := by decide +kernel
theorem dX4_trackLength_19 : decode cX4_trackLength 19 = .ok (.ireturn, 1) := by decide +kernel
theorem dX4_placeError_0 : decode cX4_placeError 0 = .ok (.iload_n 1, 1) := by decide +kernel
theorem dX4_placeError_1 : decode cX4_placeError 1 = .ok (.bipush 12, 2) := by decide +kernel
theorem dX4_placeError_3 : decode cX4_placeError 3 = .ok (.if_icmp .ne 5, 3) := by decide +kernel
theorem dX4_placeError_6 : decode cX4_placeError 6 = .ok (.iconst 0, 1) := by decide +kernel
theorem dX4_placeError_7 : decode cX4_placeError 7 = .ok (.ireturn, 1) := by decide +kernel
theorem dX4_placeError_8 : decode cX4_placeError 8 = .ok (.iload_n 1, 1) := by decide +kernel
theorem dX4_placeError_9 : decode cX4_placeError 9 = .ok (.invokestatic 27, 3) := by decide +kernel
theorem dX4_placeError_12 : decode cX4_placeError 12 = .ok (.ifCond .ne 5, 3) := by decide +kernel
theorem dX4_placeError_15 : decode cX4_placeError 15 = .ok (.iconst (-1), 1) := by decide +kernel
theorem dX4_placeError_16 : decode cX4_placeError 16 = .ok (.ireturn, 1) := by decide +kernel
theorem dX4_placeError_17 : decode cX4_placeError 17 = .ok (.aload_n 0, 1) := by decide +kernel
theorem dX4_placeError_18 : decode cX4_placeError 18 = .ok (.getfield 12, 3) := by decide +kernel
theorem dX4_placeError_21 : decode cX4_placeError 21 = .ok (.iload_n 1, 1) := by decide +kernel
theorem dX4_placeError_22 : decode cX4_placeError 22 = .ok (.invokevirtual 35, 3) := by decide +kernel
theorem dX4_placeError_25 : decode cX4_placeError 25 = .ok (.ifCond .ne 8, 3) := by decide +kernel
theorem dX4_placeError_28 : decode cX4_placeError 28 = .ok (.bipush (-2), 2) := by decide +kernel
theorem dX4_placeError_30 : decode cX4_placeError 30 = .ok (.goto 4, 3) := by decide +kernel
theorem dX4_placeError_33 : decode cX4_placeError 33 = .ok (.iconst 0, 1) := by decide +kernel
theorem dX4_placeError_34 : decode cX4_placeError 34 = .ok (.ireturn, 1) := by decide +kernel
theorem dX4_freeLength_0 : decode cX4_freeLength 0 = .ok (.aload_n 0, 1) := by decide +kernel
theorem dX4_freeLength_1 : decode cX4_freeLength 1 = .ok (.iload_n 1, 1) := by decide +kernel
theorem dX4_freeLength_2 : decode cX4_freeLength 2 = .ok (.invokevirtual 66, 3) := by decide +kernel
theorem dX4_freeLength_5 : decode cX4_freeLength 5 = .ok (.istore_n 2, 1) := by decide +kernel
theorem dX4_freeLength_6 : decode cX4_freeLength 6 = .ok (.iload_n 2, 1) := by decide +kernel
theorem dX4_freeLength_7 : decode cX4_freeLength 7 = .ok (.ifCond .eq 7, 3) := by decide +kernel
theorem dX4_freeLength_10 : decode cX4_freeLength 10 = .ok (.iload_n 2, 1) := by decide +kernel
theorem dX4_freeLength_11 : decode cX4_freeLength 11 = .ok (.goto 11, 3) := by decide +kernel
theorem dX4_freeLength_14 : decode cX4_freeLength 14 = .ok (.aload_n 0, 1) := by decide +kernel
theorem dX4_freeLength_15 : decode cX4_freeLength 15 = .ok (.getfield 12, 3) := by decide +kernel
theorem dX4_freeLength_18 : decode cX4_freeLength 18 = .ok (.iload_n 1, 1) := by decide +kernel
theorem dX4_freeLength_19 : decode cX4_freeLength 19 = .ok (.invokevirtual 39, 3) := by decide +kernel
theorem dX4_freeLength_22 : decode cX4_freeLength 22 = .ok (.ireturn, 1) := by decide +kernel
theorem dX4_row_0 : decode cX4_row 0 = .ok (.aload_n 0, 1) := by decide +kernel
theorem dX4_row_1 : decode cX4_row 1 = .ok (.iload_n 1, 1) := by decide +kernel
theorem dX4_row_2 : decode cX4_row 2 = .ok (.invokevirtual 66, 3) := by decide +kernel
theorem dX4_row_5 : decode cX4_row 5 = .ok (.istore_n 3, 1) := by decide +kernel
theorem dX4_row_6 : decode cX4_row 6 = .ok (.iload_n 3, 1) := by decide +kernel
theorem dX4_row_7 : decode cX4_row 7 = .ok (.ifCond .eq 5, 3) := by decide +kernel
theorem dX4_row_10 : decode cX4_row 10 = .ok (.iload_n 3, 1) := by decide +kernel
theorem dX4_row_11 : decode cX4_row 11 = .ok (.ireturn, 1) := by decide +kernel
theorem dX4_row_12 : decode cX4_row 12 = .ok (.iload_n 2, 1) := by decide +kernel
theorem dX4_row_13 : decode cX4_row 13 = .ok (.iconst (-1), 1) := by decide +kernel
theorem dX4_row_14 : decode cX4_row 14 = .ok (.if_icmp .ne 14, 3) := by decide +kernel
theorem dX4_row_17 : decode cX4_row 17 = .ok (.aload_n 0, 1) := by decide +kernel
theorem dX4_row_18 : decode cX4_row 18 = .ok (.getfield 12, 3) := by decide +kernel
theorem dX4_row_21 : decode cX4_row 21 = .ok (.iload_n 1, 1) := by decide +kernel
theorem dX4_row_22 : decode cX4_row 22 = .ok (.invokevirtual 69, 3) := by decide +kernel
theorem dX4_row_25 : decode cX4_row 25 = .ok (.goto 12, 3) := by decide +kernel
theorem dX4_row_28 : decode cX4_row 28 = .ok (.aload_n 0, 1) := by decide +kernel
theorem dX4_row_29 : decode cX4_row 29 = .ok (.getfield 12, 3) := by decide +kernel
theorem dX4_row_32 : decode cX4_row 32 = .ok (.iload_n 1, 1) := by decide +kernel
theorem dX4_row_33 : decode cX4_row 33 = .ok (.iload_n 2, 1) := by decide +kernel
theorem dX4_row_34 : decode cX4_row 34 = .ok (.invokevirtual 72, 3) := by decide +kernel
theorem dX4_row_37 : decode cX4_row 37 = .ok (.ireturn, 1) := by decide +kernel
theorem dX4_place_0 : decode cX4_place 0 = .ok (.aload_n 0, 1) := by decide +kernel
theorem dX4_place_1 : decode cX4_place 1 = .ok (.getfield 12, 3) := by decide +kernel
theorem dX4_place_4 : decode cX4_place 4 = .ok (.iload_n 1, 1) := by decide +kernel
theorem dX4_place_5 : decode cX4_place 5 = .ok (.invokevirtual 56, 3) := by decide +kernel
theorem dX4_place_8 : decode cX4_place 8 = .ok (.ifCond .eq 14, 3) := by decide +kernel
theorem dX4_place_11 : decode cX4_place 11 = .ok (.aload_n 0, 1) := by decide +kernel
theorem dX4_place_12 : decode cX4_place 12 = .ok (.getfield 12, 3) := by decide +kernel
theorem dX4_place_15 : decode cX4_place 15 = .ok (.iload_n 1, 1) := by decide +kernel
theorem dX4_place_16 : decode cX4_place 16 = .ok (.invokevirtual 75, 3) := by decide +kernel
theorem dX4_place_19 : decode cX4_place 19 = .ok (.goto 5, 3) := by decide +kernel
theorem dX4_place_22 : decode cX4_place 22 = .ok (.bipush (-3), 2) := by decide +kernel
theorem dX4_place_24 : decode cX4_place 24 = .ok (.ireturn, 1) := by decide +kernel
theorem dX4_pointsTo_0 : decode cX4_pointsTo 0 = .ok (.iload_n 1, 1) := by decide +kernel
theorem dX4_pointsTo_1 : decode cX4_pointsTo 1 = .ok (.invokestatic 78, 3) := by decide +kernel
theorem dX4_pointsTo_4 : decode cX4_pointsTo 4 = .ok (.ifCond .eq 14, 3) := by decide +kernel
theorem dX4_pointsTo_7 : decode cX4_pointsTo 7 = .ok (.aload_n 0, 1) := by decide +kernel
theorem dX4_pointsTo_8 : decode cX4_pointsTo 8 = .ok (.getfield 12, 3) := by decide +kernel
theorem dX4_pointsTo_11 : decode cX4_pointsTo 11 = .ok (.iload_n 1, 1) := by decide +kernel
theorem dX4_pointsTo_12 : decode cX4_pointsTo 12 = .ok (.invokevirtual 81, 3) := by decide +kernel
theorem dX4_pointsTo_15 : decode cX4_pointsTo 15 = .ok (.goto 5, 3) := by decide +kernel
theorem dX4_pointsTo_18 : decode cX4_pointsTo 18 = .ok (.bipush (-4), 2) := by decide +kernel
theorem dX4_pointsTo_20 : decode cX4_pointsTo 20 = .ok (.ireturn, 1) := by decide +kernel
theorem dX4_turn_0 : decode cX4_turn 0 = .ok (.iload_n 1, 1) := by decide +kernel
theorem dX4_turn_1 : decode cX4_turn 1 = .ok (.ifCond .eq 15, 3) := by decide +kernel
theorem dX4_turn_4 : decode cX4_turn 4 = .ok (.iload_n 1, 1) := by decide +kernel
theorem dX4_turn_5 : decode cX4_turn 5 = .ok (.bipush (-11), 2) := by decide +kernel
theorem dX4_turn_7 : decode cX4_turn 7 = .ok (.if_icmp .lt 9, 3) := by decide +kernel
theorem dX4_turn_10 : decode cX4_turn 10 = .ok (.iload_n 1, 1) := by decide +kernel
theorem dX4_turn_11 : decode cX4_turn 11 = .ok (.bipush 11, 2) := by decide +kernel
theorem dX4_turn_13 : decode cX4_turn 13 = .ok (.if_icmp .le 6, 3) := by decide +kernel
theorem dX4_turn_16 : decode cX4_turn 16 = .ok (.bipush (-4), 2) := by decide +kernel
theorem dX4_turn_18 : decode cX4_turn 18 = .ok (.ireturn, 1) := by decide +kernel
theorem dX4_turn_19 : decode cX4_turn 19 = .ok (.iload_n 1, 1) := by decide +kernel
theorem dX4_turn_20 : decode cX4_turn 20 = .ok (.ifCond .le 7, 3) := by decide +kernel
theorem dX4_turn_23 : decode cX4_turn 23 = .ok (.iconst 0, 1) := by decide +kernel
theorem dX4_turn_24 : decode cX4_turn 24 = .ok (.goto 4, 3) := by decide +kernel
theorem dX4_turn_27 : decode cX4_turn 27 = .ok (.iconst 1, 1) := by decide +kernel
theorem dX4_turn_28 : decode cX4_turn 28 = .ok (.istore_n 2, 1) := by decide +kernel
theorem dX4_turn_29 : decode cX4_turn 29 = .ok (.iload_n 1, 1) := by decide +kernel
theorem dX4_turn_30 : decode cX4_turn 30 = .ok (.invokestatic 84, 3) := by decide +kernel
theorem dX4_turn_33 : decode cX4_turn 33 = .ok (.istore_n 3, 1) := by decide +kernel
theorem dX4_turn_34 : decode cX4_turn 34 = .ok (.iconst 0, 1) := by decide +kernel
theorem dX4_turn_35 : decode cX4_turn 35 = .ok (.istore 4, 2) := by decide +kernel
theorem dX4_turn_37 : decode cX4_turn 37 = .ok (.iload 4, 2) := by decide +kernel
theorem dX4_turn_39 : decode cX4_turn 39 = .ok (.iload_n 3, 1) := by decide +kernel
theorem dX4_turn_40 : decode cX4_turn 40 = .ok (.if_icmp .ge 25, 3) := by decide +kernel
theorem dX4_turn_43 : decode cX4_turn 43 = .ok (.aload_n 0, 1) := by decide +kernel
theorem dX4_turn_44 : decode cX4_turn 44 = .ok (.getfield 12, 3) := by decide +kernel
theorem dX4_turn_47 : decode cX4_turn 47 = .ok (.iload_n 2, 1) := by decide +kernel
theorem dX4_turn_48 : decode cX4_turn 48 = .ok (.invokevirtual 89, 3) := by decide +kernel
theorem dX4_turn_51 : decode cX4_turn 51 = .ok (.aload_n 0, 1) := by decide +kernel
theorem dX4_turn_52 : decode cX4_turn 52 = .ok (.getfield 23, 3) := by decide +kernel
theorem dX4_turn_55 : decode cX4_turn 55 = .ok (.iload_n 2, 1) := by decide +kernel
theorem dX4_turn_56 : decode cX4_turn 56 = .ok (.invokevirtual 93, 3) := by decide +kernel
theorem dX4_turn_59 : decode cX4_turn 59 = .ok (.iinc 4 1, 3) := by decide +kernel
theorem dX4_turn_62 : decode cX4_turn 62 = .ok (.goto (-25), 3) := by decide +kernel
theorem dX4_turn_65 : decode cX4_turn 65 = .ok (.aload_n 0, 1) := by decide +kernel
theorem dX4_turn_66 : decode cX4_turn 66 = .ok (.dup, 1) := by decide +kernel
theorem dX4_turn_67 : decode cX4_turn 67 = .ok (.getfield 96, 3) := by decide +kernel
theorem dX4_turn_70 : decode cX4_turn 70 = .ok (.iload_n 3, 1) := by decide +kernel
theorem dX4_turn_71 : decode cX4_turn 71 = .ok (.iadd, 1) := by decide +kernel
theorem dX4_turn_72 : decode cX4_turn 72 = .ok (.putfield 96, 3) := by decide +kernel
theorem dX4_turn_75 : decode cX4_turn 75 = .ok (.aload_n 0, 1) := by decide +kernel
theorem dX4_turn_76 : decode cX4_turn 76 = .ok (.getfield 12, 3) := by decide +kernel
theorem dX4_turn_79 : decode cX4_turn 79 = .ok (.getfield 99, 3) := by decide +kernel
theorem dX4_turn_82 : decode cX4_turn 82 = .ok (.ireturn, 1) := by decide +kernel
theorem dX4_moveIfPossible_0 : decode cX4_moveIfPossible 0 = .ok (.aload_n 0, 1) := by decide +kernel
theorem dX4_moveIfPossible_1 : decode cX4_moveIfPossible 1 = .ok (.getfield 12, 3) := by decide +kernel
theorem dX4_moveIfPossible_4 : decode cX4_moveIfPossible 4 = .ok (.iload_n 1, 1) := by decide +kernel
theorem dX4_moveIfPossible_5 : decode cX4_moveIfPossible 5 = .ok (.iload_n 2, 1) := by decide +kernel
theorem dX4_moveIfPossible_6 : decode cX4_moveIfPossible 6 = .ok (.invokevirtual 156, 3) := by decide +kernel
theorem dX4_moveIfPossible_9 : decode cX4_moveIfPossible 9 = .ok (.istore_n 3, 1) := by decide +kernel
theorem dX4_moveIfPossible_10 : decode cX4_moveIfPossible 10 = .ok (.iload_n 3, 1) := by decide +kernel
theorem dX4_moveIfPossible_11 : decode cX4_moveIfPossible 11 = .ok (.ifCond .eq 5, 3) := by decide +kernel
theorem dX4_moveIfPossible_14 : decode cX4_moveIfPossible 14 = .ok (.iload_n 3, 1) := by decide +kernel
theorem dX4_moveIfPossible_15 : decode cX4_moveIfPossible 15 = .ok (.ireturn, 1) := by decide +kernel
theorem dX4_moveIfPossible_16 : decode cX4_moveIfPossible 16 = .ok (.aload_n 0, 1) := by decide +kernel
theorem dX4_moveIfPossible_17 : decode cX4_moveIfPossible 17 = .ok (.getfield 12, 3) := by decide +kernel
theorem dX4_moveIfPossible_20 : decode cX4_moveIfPossible 20 = .ok (.iload_n 1, 1) := by decide +kernel
theorem dX4_moveIfPossible_21 : decode cX4_moveIfPossible 21 = .ok (.iload_n 2, 1) := by decide +kernel
theorem dX4_moveIfPossible_22 : decode cX4_moveIfPossible 22 = .ok (.invokevirtual 159, 3) := by decide +kernel
theorem dX4_moveIfPossible_25 : decode cX4_moveIfPossible 25 = .ok (.aload_n 0, 1) := by decide +kernel
theorem dX4_moveIfPossible_26 : decode cX4_moveIfPossible 26 = .ok (.getfield 23, 3) := by decide +kernel
theorem dX4_moveIfPossible_29 : decode cX4_moveIfPossible 29 = .ok (.iload_n 1, 1) := by decide +kernel
theorem dX4_moveIfPossible_30 : decode cX4_moveIfPossible 30 = .ok (.iload_n 2, 1) := by decide +kernel
theorem dX4_moveIfPossible_31 : decode cX4_moveIfPossible 31 = .ok (.iadd, 1) := by decide +kernel
theorem dX4_moveIfPossible_32 : decode cX4_moveIfPossible 32 = .ok (.invokevirtual 93, 3) := by decide +kernel
theorem dX4_moveIfPossible_35 : decode cX4_moveIfPossible 35 = .ok (.aload_n 0, 1) := by decide +kernel
theorem dX4_moveIfPossible_36 : decode cX4_moveIfPossible 36 = .ok (.getfield 12, 3) := by decide +kernel
theorem dX4_moveIfPossible_39 : decode cX4_moveIfPossible 39 = .ok (.aload_n 0, 1) := by decide +kernel
theorem dX4_moveIfPossible_40 : decode cX4_moveIfPossible 40 = .ok (.getfield 12, 3) := by decide +kernel
theorem dX4_moveIfPossible_43 : decode cX4_moveIfPossible 43 = .ok (.iload_n 1, 1) := by decide +kernel
theorem dX4_moveIfPossible_44 : decode cX4_moveIfPossible 44 = .ok (.invokevirtual 162, 3) := by decide +kernel
theorem dX4_moveIfPossible_47 : decode cX4_moveIfPossible 47 = .ok (.invokevirtual 69, 3) := by decide +kernel
theorem dX4_moveIfPossible_50 : decode cX4_moveIfPossible 50 = .ok (.ireturn, 1) := by decide +kernel
theorem dX4_moveIn_0 : decode cX4_moveIn 0 = .ok (.iload_n 1, 1) := by decide +kernel
theorem dX4_moveIn_1 : decode cX4_moveIn 1 = .ok (.invokestatic 78, 3) := by decide +kernel
theorem dX4_moveIn_4 : decode cX4_moveIn 4 = .ok (.ifCond .eq 8, 3) := by decide +kernel
theorem dX4_moveIn_7 : decode cX4_moveIn 7 = .ok (.iload_n 2, 1) := by decide +kernel
theorem dX4_moveIn_8 : decode cX4_moveIn 8 = .ok (.iconst 1, 1) := by decide +kernel
theorem dX4_moveIn_9 : decode cX4_moveIn 9 = .ok (.if_icmp .ge 6, 3) := by decide +kernel
theorem dX4_moveIn_12 : decode cX4_moveIn 12 = .ok (.bipush (-4), 2) := by decide +kernel
theorem dX4_moveIn_14 : decode cX4_moveIn 14 = .ok (.ireturn, 1) := by decide +kernel
theorem dX4_moveIn_15 : decode cX4_moveIn 15 = .ok (.aload_n 0, 1) := by decide +kernel
theorem dX4_moveIn_16 : decode cX4_moveIn 16 = .ok (.iload_n 1, 1) := by decide +kernel
theorem dX4_moveIn_17 : decode cX4_moveIn 17 = .ok (.ifCond .ne 8, 3) := by decide +kernel
theorem dX4_moveIn_20 : decode cX4_moveIn 20 = .ok (.bipush 10, 2) := by decide +kernel
theorem dX4_moveIn_22 : decode cX4_moveIn 22 = .ok (.goto 5, 3) := by decide +kernel
theorem dX4_moveIn_25 : decode cX4_moveIn 25 = .ok (.bipush 20, 2) := by decide +kernel
theorem dX4_moveIn_27 : decode cX4_moveIn 27 = .ok (.iload_n 2, 1) := by decide +kernel
theorem dX4_moveIn_28 : decode cX4_moveIn 28 = .ok (.invokevirtual 102, 3) := by decide +kernel
theorem dX4_moveIn_31 : decode cX4_moveIn 31 = .ok (.ireturn, 1) := by decide +kernel
theorem dX4_moveOut_0 : decode cX4_moveOut 0 = .ok (.iload_n 1, 1) := by decide +kernel
theorem dX4_moveOut_1 : decode cX4_moveOut 1 = .ok (.invokestatic 78, 3) := by decide +kernel
theorem dX4_moveOut_4 : decode cX4_moveOut 4 = .ok (.ifCond .eq 8, 3) := by decide +kernel
theorem dX4_moveOut_7 : decode cX4_moveOut 7 = .ok (.iload_n 2, 1) := by decide +kernel
theorem dX4_moveOut_8 : decode cX4_moveOut 8 = .ok (.iconst 1, 1) := by decide +kernel
theorem dX4_moveOut_9 : decode cX4_moveOut 9 = .ok (.if_icmp .ge 6, 3) := by decide +kernel
theorem dX4_moveOut_12 : decode cX4_moveOut 12 = .ok (.bipush (-4), 2) := by decide +kernel
theorem dX4_moveOut_14 : decode cX4_moveOut 14 = .ok (.ireturn, 1) := by decide +kernel
theorem dX4_moveOut_15 : decode cX4_moveOut 15 = .ok (.aload_n 0, 1) := by decide +kernel
theorem dX4_moveOut_16 : decode cX4_moveOut 16 = .ok (.iload_n 1, 1) := by decide +kernel
theorem dX4_moveOut_17 : decode cX4_moveOut 17 = .ok (.ifCond .ne 8, 3) := by decide +kernel
theorem dX4_moveOut_20 : decode cX4_moveOut 20 = .ok (.bipush 30, 2) := by decide +kernel
theorem dX4_moveOut_22 : decode cX4_moveOut 22 = .ok (.goto 5, 3) := by decide +kernel
theorem dX4_moveOut_25 : decode cX4_moveOut 25 = .ok (.bipush 40, 2) := by decide +kernel
theorem dX4_moveOut_27 : decode cX4_moveOut 27 = .ok (.iload_n 2, 1) := by decide +kernel
theorem dX4_moveOut_28 : decode cX4_moveOut 28 = .ok (.invokevirtual 102, 3) := by decide +kernel
theorem dX4_moveOut_31 : decode cX4_moveOut 31 = .ok (.ireturn, 1) := by decide +kernel
theorem dX4_turnsMade_0 : decode cX4_turnsMade 0 = .ok (.aload_n 0, 1) := by decide +kernel
theorem dX4_turnsMade_1 : decode cX4_turnsMade 1 = .ok (.getfield 96, 3) := by decide +kernel
theorem dX4_turnsMade_4 : decode cX4_turnsMade 4 = .ok (.ireturn, 1) := by decide +kernel
theorem dX4_undo_0 : decode cX4_undo 0 = .ok (.aload_n 0, 1) := by decide +kernel
theorem dX4_undo_1 : decode cX4_undo 1 = .ok (.getfield 23, 3) := by decide +kernel
theorem dX4_undo_4 : decode cX4_undo 4 = .ok (.invokevirtual 105, 3) := by decide +kernel
theorem dX4_undo_7 : decode cX4_undo 7 = .ok (.istore_n 1, 1) := by decide +kernel
theorem dX4_undo_8 : decode cX4_undo 8 = .ok (.iload_n 1, 1) := by decide +kernel
theorem dX4_undo_9 : decode cX4_undo 9 = .ok (.bipush (-11), 2) := by decide +kernel
theorem dX4_undo_11 : decode cX4_undo 11 = .ok (.if_icmp .eq 14, 3) := by decide +kernel
theorem dX4_undo_14 : decode cX4_undo 14 = .ok (.aload_n 0, 1) := by decide +kernel
theorem dX4_undo_15 : decode cX4_undo 15 = .ok (.getfield 12, 3) := by decide +kernel
theorem dX4_undo_18 : decode cX4_undo 18 = .ok (.iload_n 1, 1) := by decide +kernel
theorem dX4_undo_19 : decode cX4_undo 19 = .ok (.invokestatic 108, 3) := by decide +kernel
theorem dX4_undo_22 : decode cX4_undo 22 = .ok (.invokevirtual 89, 3) := by decide +kernel
theorem dX4_undo_25 : decode cX4_undo 25 = .ok (.iload_n 1, 1) := by decide +kernel
theorem dX4_undo_26 : decode cX4_undo 26 = .ok (.ireturn, 1) := by decide +kernel
theorem dX4_log_0 : decode cX4_log 0 = .ok (.iload_n 1, 1) := by decide +kernel
theorem dX4_log_1 : decode cX4_log 1 = .ok (.iconst (-1), 1) := by decide +kernel
theorem dX4_log_2 : decode cX4_log 2 = .ok (.if_icmp .ne 13, 3) := by decide +kernel
theorem dX4_log_5 : decode cX4_log 5 = .ok (.aload_n 0, 1) := by decide +kernel
theorem dX4_log_6 : decode cX4_log 6 = .ok (.getfield 23, 3) := by decide +kernel
theorem dX4_log_9 : decode cX4_log 9 = .ok (.getfield 111, 3) := by decide +kernel
theorem dX4_log_12 : decode cX4_log 12 = .ok (.goto 11, 3) := by decide +kernel
theorem dX4_log_15 : decode cX4_log 15 = .ok (.aload_n 0, 1) := by decide +kernel
theorem dX4_log_16 : decode cX4_log 16 = .ok (.getfield 23, 3) := by decide +kernel
theorem dX4_log_19 : decode cX4_log 19 = .ok (.iload_n 1, 1) := by decide +kernel
theorem dX4_log_20 : decode cX4_log 20 = .ok (.invokevirtual 114, 3) := by decide +kernel
theorem dX4_log_23 : decode cX4_log 23 = .ok (.ireturn, 1) := by decide +kernel
theorem dX4_planError_0 : decode cX4_planError 0 = .ok (.aload_n 0, 1) := by decide +kernel
theorem dX4_planError_1 : decode cX4_planError 1 = .ok (.getfield 12, 3) := by decide +kernel
theorem dX4_planError_4 : decode cX4_planError 4 = .ok (.iload_n 1, 1) := by decide +kernel
theorem dX4_planError_5 : decode cX4_planError 5 = .ok (.invokevirtual 56, 3) := by decide +kernel
theorem dX4_planError_8 : decode cX4_planError 8 = .ok (.ifCond .ne 6, 3) := by decide +kernel
theorem dX4_planError_11 : decode cX4_planError 11 = .ok (.bipush (-3), 2) := by decide +kernel
theorem dX4_planError_13 : decode cX4_planError 13 = .ok (.ireturn, 1) := by decide +kernel
theorem dX4_planError_14 : decode cX4_planError 14 = .ok (.iload_n 2, 1) := by decide +kernel
theorem dX4_planError_15 : decode cX4_planError 15 = .ok (.invokestatic 27, 3) := by decide +kernel
theorem dX4_planError_18 : decode cX4_planError 18 = .ok (.ifCond .ne 5, 3) := by decide +kernel
theorem dX4_planError_21 : decode cX4_planError 21 = .ok (.iconst (-1), 1) := by decide +kernel
theorem dX4_planError_22 : decode cX4_planError 22 = .ok (.ireturn, 1) := by decide +kernel
theorem dX4_planError_23 : decode cX4_planError 23 = .ok (.aload_n 0, 1) := by decide +kernel
theorem dX4_planError_24 : decode cX4_planError 24 = .ok (.getfield 12, 3) := by decide +kernel
theorem dX4_planError_27 : decode cX4_planError 27 = .ok (.iload_n 2, 1) := by decide +kernel
theorem dX4_planError_28 : decode cX4_planError 28 = .ok (.invokevirtual 35, 3) := by decide +kernel
theorem dX4_planError_31 : decode cX4_planError 31 = .ok (.ifCond .ne 6, 3) := by decide +kernel
theorem dX4_planError_34 : decode cX4_planError 34 = .ok (.bipush (-2), 2) := by decide +kernel
theorem dX4_planError_36 : decode cX4_planError 36 = .ok (.ireturn, 1) := by decide +kernel
theorem dX4_planError_37 : decode cX4_planError 37 = .ok (.aload_n 0, 1) := by decide +kernel
theorem dX4_planError_38 : decode cX4_planError 38 = .ok (.getfield 12, 3) := by decide +kernel
theorem dX4_planError_41 : decode cX4_planError 41 = .ok (.getfield 42, 3) := by decide +kernel
theorem dX4_planError_44 : decode cX4_planError 44 = .ok (.iconst 3, 1) := by decide +kernel
theorem dX4_planError_45 : decode cX4_planError 45 = .ok (.if_icmp .gt 18, 3) := by decide +kernel
theorem dX4_planError_48 : decode cX4_planError 48 = .ok (.aload_n 0, 1) := by decide +kernel
theorem dX4_planError_49 : decode cX4_planError 49 = .ok (.getfield 12, 3) := by decide +kernel
theorem dX4_planError_52 : decode cX4_planError 52 = .ok (.invokevirtual 146, 3) := by decide +kernel
theorem dX4_planError_55 : decode cX4_planError 55 = .ok (.iconst 5, 1) := by decide +kernel
theorem dX4_planError_56 : decode cX4_planError 56 = .ok (.if_icmp .gt 7, 3) := by decide +kernel
theorem dX4_planError_59 : decode cX4_planError 59 = .ok (.iconst 1, 1) := by decide +kernel
theorem dX4_planError_60 : decode cX4_planError 60 = .ok (.goto 4, 3) := by decide +kernel
theorem dX4_planError_63 : decode cX4_planError 63 = .ok (.iconst 0, 1) := by decide +kernel
theorem dX4_planError_64 : decode cX4_planError 64 = .ok (.istore_n 3, 1) := by decide +kernel
theorem dX4_planError_65 : decode cX4_planError 65 = .ok (.iload_n 3, 1) := by decide +kernel
theorem dX4_planError_66 : decode cX4_planError 66 = .ok (.ifCond .eq 7, 3) := by decide +kernel
theorem dX4_planError_69 : decode cX4_planError 69 = .ok (.iconst 0, 1) := by decide +kernel
theorem dX4_planError_70 : decode cX4_planError 70 = .ok (.goto 5, 3) := by decide +kernel
theorem dX4_planError_73 : decode cX4_planError 73 = .ok (.bipush (-9), 2) := by decide +kernel
theorem dX4_planError_75 : decode cX4_planError 75 = .ok (.ireturn, 1) := by decide +kernel
theorem dX4_readyPlanner_0 : decode cX4_readyPlanner 0 = .ok (.aload_n 0, 1) := by decide +kernel
theorem dX4_readyPlanner_1 : decode cX4_readyPlanner 1 = .ok (.getfield 168, 3) := by decide +kernel
theorem dX4_readyPlanner_4 : decode cX4_readyPlanner 4 = .ok (.ifnonnull 14, 3) := by decide +kernel
theorem dX4_readyPlanner_7 : decode cX4_readyPlanner 7 = .ok (.aload_n 0, 1) := by decide +kernel
theorem dX4_readyPlanner_8 : decode cX4_readyPlanner 8 = .ok (.new 125, 3) := by decide +kernel
theorem dX4_readyPlanner_11 : decode cX4_readyPlanner 11 = .ok (.dup, 1) := by decide +kernel
theorem dX4_readyPlanner_12 : decode cX4_readyPlanner 12 = .ok (.invokespecial 175, 3) := by decide +kernel
theorem dX4_readyPlanner_15 : decode cX4_readyPlanner 15 = .ok (.putfield 168, 3) := by decide +kernel
theorem dX4_readyPlanner_18 : decode cX4_readyPlanner 18 = .ok (.aload_n 0, 1) := by decide +kernel
theorem dX4_readyPlanner_19 : decode cX4_readyPlanner 19 = .ok (.getfield 168, 3) := by decide +kernel
theorem dX4_readyPlanner_22 : decode cX4_readyPlanner 22 = .ok (.areturn, 1) := by decide +kernel
theorem dX4_fewestTurns_0 : decode cX4_fewestTurns 0 = .ok (.aload_n 0, 1) := by decide +kernel
theorem dX4_fewestTurns_1 : decode cX4_fewestTurns 1 = .ok (.iload_n 1, 1) := by decide +kernel
theorem dX4_fewestTurns_2 : decode cX4_fewestTurns 2 = .ok (.iload_n 2, 1) := by decide +kernel
theorem dX4_fewestTurns_3 : decode cX4_fewestTurns 3 = .ok (.invokevirtual 117, 3) := by decide +kernel
theorem dX4_fewestTurns_6 : decode cX4_fewestTurns 6 = .ok (.istore_n 3, 1) := by decide +kernel
theorem dX4_fewestTurns_7 : decode cX4_fewestTurns 7 = .ok (.iload_n 3, 1) := by decide +kernel
theorem dX4_fewestTurns_8 : decode cX4_fewestTurns 8 = .ok (.ifCond .eq 5, 3) := by decide +kernel
theorem dX4_fewestTurns_11 : decode cX4_fewestTurns 11 = .ok (.iload_n 3, 1) := by decide +kernel
theorem dX4_fewestTurns_12 : decode cX4_fewestTurns 12 = .ok (.ireturn, 1) := by decide +kernel
theorem dX4_fewestTurns_13 : decode cX4_fewestTurns 13 = .ok (.aload_n 0, 1) := by decide +kernel
theorem dX4_fewestTurns_14 : decode cX4_fewestTurns 14 = .ok (.invokevirtual 120, 3) := by decide +kernel
theorem dX4_fewestTurns_17 : decode cX4_fewestTurns 17 = .ok (.astore 4, 2) := by decide +kernel
theorem dX4_fewestTurns_19 : decode cX4_fewestTurns 19 = .ok (.aload 4, 2) := by decide +kernel
theorem dX4_fewestTurns_21 : decode cX4_fewestTurns 21 = .ok (.aload_n 0, 1) := by decide +kernel
theorem dX4_fewestTurns_22 : decode cX4_fewestTurns 22 = .ok (.getfield 12, 3) := by decide +kernel
theorem dX4_fewestTurns_25 : decode cX4_fewestTurns 25 = .ok (.iload_n 1, 1) := by decide +kernel
theorem dX4_fewestTurns_26 : decode cX4_fewestTurns 26 = .ok (.iload_n 2, 1) := by decide +kernel
theorem dX4_fewestTurns_27 : decode cX4_fewestTurns 27 = .ok (.invokevirtual 124, 3) := by decide +kernel
theorem dX4_fewestTurns_30 : decode cX4_fewestTurns 30 = .ok (.aload 4, 2) := by decide +kernel
theorem dX4_fewestTurns_32 : decode cX4_fewestTurns 32 = .ok (.aload_n 0, 1) := by decide +kernel
theorem dX4_fewestTurns_33 : decode cX4_fewestTurns 33 = .ok (.getfield 12, 3) := by decide +kernel
theorem dX4_fewestTurns_36 : decode cX4_fewestTurns 36 = .ok (.invokevirtual 130, 3) := by decide +kernel
theorem dX4_fewestTurns_39 : decode cX4_fewestTurns 39 = .ok (.istore 5, 2) := by decide +kernel
theorem dX4_fewestTurns_41 : decode cX4_fewestTurns 41 = .ok (.iload 5, 2) := by decide +kernel
theorem dX4_fewestTurns_43 : decode cX4_fewestTurns 43 = .ok (.ldc 134, 2) := by decide +kernel
theorem dX4_fewestTurns_45 : decode cX4_fewestTurns 45 = .ok (.if_icmp .ne 8, 3) := by decide +kernel
theorem dX4_fewestTurns_48 : decode cX4_fewestTurns 48 = .ok (.bipush (-11), 2) := by decide +kernel
theorem dX4_fewestTurns_50 : decode cX4_fewestTurns 50 = .ok (.goto 9, 3) := by decide +kernel
theorem dX4_fewestTurns_53 : decode cX4_fewestTurns 53 = .ok (.iload 5, 2) := by decide +kernel
theorem dX4_fewestTurns_55 : decode cX4_fewestTurns 55 = .ok (.sipush 10000, 3) := by decide +kernel
theorem dX4_fewestTurns_58 : decode cX4_fewestTurns 58 = .ok (.idiv, 1) := by decide +kernel
theorem dX4_fewestTurns_59 : decode cX4_fewestTurns 59 = .ok (.ireturn, 1) := by decide +kernel
theorem dX4_plan_0 : decode cX4_plan 0 = .ok (.aload_n 0, 1) := by decide +kernel
theorem dX4_plan_1 : decode cX4_plan 1 = .ok (.iload_n 1, 1) := by decide +kernel
theorem dX4_plan_2 : decode cX4_plan 2 = .ok (.iload_n 2, 1) := by decide +kernel
theorem dX4_plan_3 : decode cX4_plan 3 = .ok (.invokevirtual 117, 3) := by decide +kernel
theorem dX4_plan_6 : decode cX4_plan 6 = .ok (.istore 4, 2) := by decide +kernel
theorem dX4_plan_8 : decode cX4_plan 8 = .ok (.iload 4, 2) := by decide +kernel
theorem dX4_plan_10 : decode cX4_plan 10 = .ok (.ifCond .eq 6, 3) := by decide +kernel
theorem dX4_plan_13 : decode cX4_plan 13 = .ok (.iload 4, 2) := by decide +kernel
theorem dX4_plan_15 : decode cX4_plan 15 = .ok (.ireturn, 1) := by decide +kernel
theorem dX4_plan_16 : decode cX4_plan 16 = .ok (.aload_n 0, 1) := by decide +kernel
theorem dX4_plan_17 : decode cX4_plan 17 = .ok (.invokevirtual 120, 3) := by decide +kernel
theorem dX4_plan_20 : decode cX4_plan 20 = .ok (.astore 5, 2) := by decide +kernel
theorem dX4_plan_22 : decode cX4_plan 22 = .ok (.aload 5, 2) := by decide +kernel
theorem dX4_plan_24 : decode cX4_plan 24 = .ok (.aload_n 0, 1) := by decide +kernel
theorem dX4_plan_25 : decode cX4_plan 25 = .ok (.getfield 12, 3) := by decide +kernel
theorem dX4_plan_28 : decode cX4_plan 28 = .ok (.iload_n 1, 1) := by decide +kernel
theorem dX4_plan_29 : decode cX4_plan 29 = .ok (.iload_n 2, 1) := by decide +kernel
theorem dX4_plan_30 : decode cX4_plan 30 = .ok (.invokevirtual 124, 3) := by decide +kernel
theorem dX4_plan_33 : decode cX4_plan 33 = .ok (.aload 5, 2) := by decide +kernel
theorem dX4_plan_35 : decode cX4_plan 35 = .ok (.aload_n 0, 1) := by decide +kernel
theorem dX4_plan_36 : decode cX4_plan 36 = .ok (.getfield 12, 3) := by decide +kernel
theorem dX4_plan_39 : decode cX4_plan 39 = .ok (.invokevirtual 130, 3) := by decide +kernel
theorem dX4_plan_42 : decode cX4_plan 42 = .ok (.istore 6, 2) := by decide +kernel
theorem dX4_plan_44 : decode cX4_plan 44 = .ok (.iload 6, 2) := by decide +kernel
theorem dX4_plan_46 : decode cX4_plan 46 = .ok (.ldc 134, 2) := by decide +kernel
theorem dX4_plan_48 : decode cX4_plan 48 = .ok (.if_icmp .eq 8, 3) := by decide +kernel
theorem dX4_plan_51 : decode cX4_plan 51 = .ok (.iload_n 3, 1) := by decide +kernel
theorem dX4_plan_52 : decode cX4_plan 52 = .ok (.iconst (-1), 1) := by decide +kernel
theorem dX4_plan_53 : decode cX4_plan 53 = .ok (.if_icmp .ge 6, 3) := by decide +kernel
theorem dX4_plan_56 : decode cX4_plan 56 = .ok (.bipush (-11), 2) := by decide +kernel
theorem dX4_plan_58 : decode cX4_plan 58 = .ok (.ireturn, 1) := by decide +kernel
theorem dX4_plan_59 : decode cX4_plan 59 = .ok (.iload_n 3, 1) := by decide +kernel
theorem dX4_plan_60 : decode cX4_plan 60 = .ok (.iconst (-1), 1) := by decide +kernel
theorem dX4_plan_61 : decode cX4_plan 61 = .ok (.if_icmp .ne 12, 3) := by decide +kernel
theorem dX4_plan_64 : decode cX4_plan 64 = .ok (.iload 6, 2) := by decide +kernel
theorem dX4_plan_66 : decode cX4_plan 66 = .ok (.sipush 10000, 3) := by decide +kernel
theorem dX4_plan_69 : decode cX4_plan 69 = .ok (.irem, 1) := by decide +kernel
theorem dX4_plan_70 : decode cX4_plan 70 = .ok (.goto 13, 3) := by decide +kernel
theorem dX4_plan_73 : decode cX4_plan 73 = .ok (.aload 5, 2) := by decide +kernel
theorem dX4_plan_75 : decode cX4_plan 75 = .ok (.aload_n 0, 1) := by decide +kernel
theorem dX4_plan_76 : decode cX4_plan 76 = .ok (.getfield 12, 3) := by decide +kernel
theorem dX4_plan_79 : decode cX4_plan 79 = .ok (.iload_n 3, 1) := by decide +kernel
theorem dX4_plan_80 : decode cX4_plan 80 = .ok (.invokevirtual 135, 3) := by decide +kernel
theorem dX4_plan_83 : decode cX4_plan 83 = .ok (.ireturn, 1) := by decide +kernel
theorem dX4_save_0 : decode cX4_save 0 = .ok (.iload_n 1, 1) := by decide +kernel
theorem dX4_save_1 : decode cX4_save 1 = .ok (.invokestatic 139, 3) := by decide +kernel
theorem dX4_save_4 : decode cX4_save 4 = .ok (.ifCond .ne 6, 3) := by decide +kernel
theorem dX4_save_7 : decode cX4_save 7 = .ok (.bipush (-4), 2) := by decide +kernel
theorem dX4_save_9 : decode cX4_save 9 = .ok (.ireturn, 1) := by decide +kernel
theorem dX4_save_10 : decode cX4_save 10 = .ok (.aload_n 0, 1) := by decide +kernel
theorem dX4_save_11 : decode cX4_save 11 = .ok (.getfield 16, 3) := by decide +kernel
theorem dX4_save_14 : decode cX4_save 14 = .ok (.iload_n 1, 1) := by decide +kernel
theorem dX4_save_15 : decode cX4_save 15 = .ok (.aaload, 1) := by decide +kernel
theorem dX4_save_16 : decode cX4_save 16 = .ok (.astore_n 2, 1) := by decide +kernel
theorem dX4_save_17 : decode cX4_save 17 = .ok (.aload_n 2, 1) := by decide +kernel
theorem dX4_save_18 : decode cX4_save 18 = .ok (.ifnonnull 18, 3) := by decide +kernel
theorem dX4_save_21 : decode cX4_save 21 = .ok (.new 9, 3) := by decide +kernel
theorem dX4_save_24 : decode cX4_save 24 = .ok (.dup, 1) := by decide +kernel
theorem dX4_save_25 : decode cX4_save 25 = .ok (.invokespecial 11, 3) := by decide +kernel
theorem dX4_save_28 : decode cX4_save 28 = .ok (.astore_n 2, 1) := by decide +kernel
theorem dX4_save_29 : decode cX4_save 29 = .ok (.aload_n 0, 1) := by decide +kernel
theorem dX4_save_30 : decode cX4_save 30 = .ok (.getfield 16, 3) := by decide +kernel
theorem dX4_save_33 : decode cX4_save 33 = .ok (.iload_n 1, 1) := by decide +kernel
theorem dX4_save_34 : decode cX4_save 34 = .ok (.aload_n 2, 1) := by decide +kernel
theorem dX4_save_35 : decode cX4_save 35 = .ok (.aastore, 1) := by decide +kernel
theorem dX4_save_36 : decode cX4_save 36 = .ok (.aload_n 2, 1) := by decide +kernel
theorem dX4_save_37 : decode cX4_save 37 = .ok (.aload_n 0, 1) := by decide +kernel
theorem dX4_save_38 : decode cX4_save 38 = .ok (.getfield 12, 3) := by decide +kernel
theorem dX4_save_41 : decode cX4_save 41 = .ok (.invokevirtual 142, 3) := by decide +kernel
theorem dX4_save_44 : decode cX4_save 44 = .ok (.aload_n 0, 1) := by decide +kernel
theorem dX4_save_45 : decode cX4_save 45 = .ok (.getfield 12, 3) := by decide +kernel
theorem dX4_save_48 : decode cX4_save 48 = .ok (.getfield 42, 3) := by decide +kernel
theorem dX4_save_51 : decode cX4_save 51 = .ok (.ireturn, 1) := by decide +kernel
theorem dX4_restore_0 : decode cX4_restore 0 = .ok (.iload_n 1, 1) := by decide +kernel
theorem dX4_restore_1 : decode cX4_restore 1 = .ok (.invokestatic 139, 3) := by decide +kernel
theorem dX4_restore_4 : decode cX4_restore 4 = .ok (.ifCond .ne 6, 3) := by decide +kernel
theorem dX4_restore_7 : decode cX4_restore 7 = .ok (.bipush (-4), 2) := by decide +kernel
theorem dX4_restore_9 : decode cX4_restore 9 = .ok (.ireturn, 1) := by decide +kernel
theorem dX4_restore_10 : decode cX4_restore 10 = .ok (.aload_n 0, 1) := by decide +kernel
theorem dX4_restore_11 : decode cX4_restore 11 = .ok (.getfield 16, 3) := by decide +kernel
theorem dX4_restore_14 : decode cX4_restore 14 = .ok (.iload_n 1, 1) := by decide +kernel
theorem dX4_restore_15 : decode cX4_restore 15 = .ok (.aaload, 1) := by decide +kernel
theorem dX4_restore_16 : decode cX4_restore 16 = .ok (.astore_n 2, 1) := by decide +kernel
theorem dX4_restore_17 : decode cX4_restore 17 = .ok (.aload_n 2, 1) := by decide +kernel
theorem dX4_restore_18 : decode cX4_restore 18 = .ok (.ifnonnull 6, 3) := by decide +kernel
theorem dX4_restore_21 : decode cX4_restore 21 = .ok (.bipush (-10), 2) := by decide +kernel
theorem dX4_restore_23 : decode cX4_restore 23 = .ok (.ireturn, 1) := by decide +kernel
theorem dX4_restore_24 : decode cX4_restore 24 = .ok (.aload_n 0, 1) := by decide +kernel
theorem dX4_restore_25 : decode cX4_restore 25 = .ok (.invokevirtual 46, 3) := by decide +kernel
theorem dX4_restore_28 : decode cX4_restore 28 = .ok (.aload_n 0, 1) := by decide +kernel
theorem dX4_restore_29 : decode cX4_restore 29 = .ok (.getfield 12, 3) := by decide +kernel
theorem dX4_restore_32 : decode cX4_restore 32 = .ok (.aload_n 2, 1) := by decide +kernel
theorem dX4_restore_33 : decode cX4_restore 33 = .ok (.invokevirtual 142, 3) := by decide +kernel
theorem dX4_restore_36 : decode cX4_restore 36 = .ok (.aload_n 0, 1) := by decide +kernel
theorem dX4_restore_37 : decode cX4_restore 37 = .ok (.getfield 12, 3) := by decide +kernel
theorem dX4_restore_40 : decode cX4_restore 40 = .ok (.getfield 42, 3) := by decide +kernel
theorem dX4_restore_43 : decode cX4_restore 43 = .ok (.ireturn, 1) := by decide +kernel
