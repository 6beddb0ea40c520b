theorem dX1_firstOnBestPlan_0 : decode cX1_firstOnBestPlan 0 = .ok (.iconst 0, 1) := by decide +kernel
theorem dX1_firstOnBestPlan_1 : decode cX1_firstOnBestPlan 1 = .ok (.istore_n 2, 1) := by decide +kernel
theorem dX1_firstOnBestPlan_2 : decode cX1_firstOnBestPlan 2 = .ok (.iload_n 2, 1) := by decide +kernel
theorem dX1_firstOnBestPlan_3 : decode cX1_firstOnBestPlan 3 = .ok (.aload_n 0, 1) := by decide +kernel
theorem dX1_firstOnBestPlan_4 : decode cX1_firstOnBestPlan 4 = .ok (.getfield 160, 3) := by decide +kernel
theorem dX1_firstOnBestPlan_7 : decode cX1_firstOnBestPlan 7 = .ok (.if_icmp .ge 49, 3) := by decide +kernel
theorem dX1_firstOnBestPlan_10 : decode cX1_firstOnBestPlan 10 = .ok (.iload_n 2, 1) := by decide +kernel
theorem dX1_firstOnBestPlan_11 : decode cX1_firstOnBestPlan 11 = .ok (.bipush 14, 2) := by decide +kernel
theorem dX1_firstOnBestPlan_13 : decode cX1_firstOnBestPlan 13 = .ok (.if_icmp .ge 43, 3) := by decide +kernel
theorem dX1_firstOnBestPlan_16 : decode cX1_firstOnBestPlan 16 = .ok (.aload_n 0, 1) := by decide +kernel
theorem dX1_firstOnBestPlan_17 : decode cX1_firstOnBestPlan 17 = .ok (.aload_n 0, 1) := by decide +kernel
theorem dX1_firstOnBestPlan_18 : decode cX1_firstOnBestPlan 18 = .ok (.getfield 28, 3) := by decide +kernel
theorem dX1_firstOnBestPlan_21 : decode cX1_firstOnBestPlan 21 = .ok (.iload_n 2, 1) := by decide +kernel
theorem dX1_firstOnBestPlan_22 : decode cX1_firstOnBestPlan 22 = .ok (.iaload, 1) := by decide +kernel
theorem dX1_firstOnBestPlan_23 : decode cX1_firstOnBestPlan 23 = .ok (.invokevirtual 93, 3) := by decide +kernel
theorem dX1_firstOnBestPlan_26 : decode cX1_firstOnBestPlan 26 = .ok (.istore_n 3, 1) := by decide +kernel
theorem dX1_firstOnBestPlan_27 : decode cX1_firstOnBestPlan 27 = .ok (.iload_n 3, 1) := by decide +kernel
theorem dX1_firstOnBestPlan_28 : decode cX1_firstOnBestPlan 28 = .ok (.ldc 68, 2) := by decide +kernel
theorem dX1_firstOnBestPlan_30 : decode cX1_firstOnBestPlan 30 = .ok (.if_icmp .eq 20, 3) := by decide +kernel
theorem dX1_firstOnBestPlan_33 : decode cX1_firstOnBestPlan 33 = .ok (.iload_n 3, 1) := by decide +kernel
theorem dX1_firstOnBestPlan_34 : decode cX1_firstOnBestPlan 34 = .ok (.aload_n 0, 1) := by decide +kernel
theorem dX1_firstOnBestPlan_35 : decode cX1_firstOnBestPlan 35 = .ok (.getfield 25, 3) := by decide +kernel
theorem dX1_firstOnBestPlan_38 : decode cX1_firstOnBestPlan 38 = .ok (.iload_n 2, 1) := by decide +kernel
theorem dX1_firstOnBestPlan_39 : decode cX1_firstOnBestPlan 39 = .ok (.iaload, 1) := by decide +kernel
theorem dX1_firstOnBestPlan_40 : decode cX1_firstOnBestPlan 40 = .ok (.invokestatic 187, 3) := by decide +kernel
theorem dX1_firstOnBestPlan_43 : decode cX1_firstOnBestPlan 43 = .ok (.iadd, 1) := by decide +kernel
theorem dX1_firstOnBestPlan_44 : decode cX1_firstOnBestPlan 44 = .ok (.iload_n 1, 1) := by decide +kernel
theorem dX1_firstOnBestPlan_45 : decode cX1_firstOnBestPlan 45 = .ok (.if_icmp .ne 5, 3) := by decide +kernel
theorem dX1_firstOnBestPlan_48 : decode cX1_firstOnBestPlan 48 = .ok (.iload_n 2, 1) := by decide +kernel
theorem dX1_firstOnBestPlan_49 : decode cX1_firstOnBestPlan 49 = .ok (.ireturn, 1) := by decide +kernel
theorem dX1_firstOnBestPlan_50 : decode cX1_firstOnBestPlan 50 = .ok (.iinc 2 1, 3) := by decide +kernel
theorem dX1_firstOnBestPlan_53 : decode cX1_firstOnBestPlan 53 = .ok (.goto (-51), 3) := by decide +kernel
theorem dX1_firstOnBestPlan_56 : decode cX1_firstOnBestPlan 56 = .ok (.bipush (-11), 2) := by decide +kernel
theorem dX1_firstOnBestPlan_58 : decode cX1_firstOnBestPlan 58 = .ok (.ireturn, 1) := by decide +kernel
theorem dX1_actionAt_0 : decode cX1_actionAt 0 = .ok (.aload_n 0, 1) := by decide +kernel
theorem dX1_actionAt_1 : decode cX1_actionAt 1 = .ok (.aload_n 1, 1) := by decide +kernel
theorem dX1_actionAt_2 : decode cX1_actionAt 2 = .ok (.invokevirtual 81, 3) := by decide +kernel
theorem dX1_actionAt_5 : decode cX1_actionAt 5 = .ok (.istore_n 3, 1) := by decide +kernel
theorem dX1_actionAt_6 : decode cX1_actionAt 6 = .ok (.bipush (-11), 2) := by decide +kernel
theorem dX1_actionAt_8 : decode cX1_actionAt 8 = .ok (.istore 4, 2) := by decide +kernel
theorem dX1_actionAt_10 : decode cX1_actionAt 10 = .ok (.iconst 0, 1) := by decide +kernel
theorem dX1_actionAt_11 : decode cX1_actionAt 11 = .ok (.istore 5, 2) := by decide +kernel
theorem dX1_actionAt_13 : decode cX1_actionAt 13 = .ok (.iload 5, 2) := by decide +kernel
theorem dX1_actionAt_15 : decode cX1_actionAt 15 = .ok (.iload_n 2, 1) := by decide +kernel
theorem dX1_actionAt_16 : decode cX1_actionAt 16 = .ok (.if_icmp .gt 65, 3) := by decide +kernel
theorem dX1_actionAt_19 : decode cX1_actionAt 19 = .ok (.iload 5, 2) := by decide +kernel
theorem dX1_actionAt_21 : decode cX1_actionAt 21 = .ok (.sipush 4032, 3) := by decide +kernel
theorem dX1_actionAt_24 : decode cX1_actionAt 24 = .ok (.if_icmp .ge 57, 3) := by decide +kernel
theorem dX1_actionAt_27 : decode cX1_actionAt 27 = .ok (.aload_n 0, 1) := by decide +kernel
theorem dX1_actionAt_28 : decode cX1_actionAt 28 = .ok (.iload_n 3, 1) := by decide +kernel
theorem dX1_actionAt_29 : decode cX1_actionAt 29 = .ok (.invokevirtual 99, 3) := by decide +kernel
theorem dX1_actionAt_32 : decode cX1_actionAt 32 = .ok (.aload_n 0, 1) := by decide +kernel
theorem dX1_actionAt_33 : decode cX1_actionAt 33 = .ok (.aload_n 0, 1) := by decide +kernel
theorem dX1_actionAt_34 : decode cX1_actionAt 34 = .ok (.iload_n 3, 1) := by decide +kernel
theorem dX1_actionAt_35 : decode cX1_actionAt 35 = .ok (.invokevirtual 93, 3) := by decide +kernel
theorem dX1_actionAt_38 : decode cX1_actionAt 38 = .ok (.invokevirtual 106, 3) := by decide +kernel
theorem dX1_actionAt_41 : decode cX1_actionAt 41 = .ok (.istore 6, 2) := by decide +kernel
theorem dX1_actionAt_43 : decode cX1_actionAt 43 = .ok (.iload 6, 2) := by decide +kernel
theorem dX1_actionAt_45 : decode cX1_actionAt 45 = .ok (.ifCond .lt 10, 3) := by decide +kernel
theorem dX1_actionAt_48 : decode cX1_actionAt 48 = .ok (.iload 6, 2) := by decide +kernel
theorem dX1_actionAt_50 : decode cX1_actionAt 50 = .ok (.bipush 14, 2) := by decide +kernel
theorem dX1_actionAt_52 : decode cX1_actionAt 52 = .ok (.if_icmp .lt 6, 3) := by decide +kernel
theorem dX1_actionAt_55 : decode cX1_actionAt 55 = .ok (.bipush (-11), 2) := by decide +kernel
theorem dX1_actionAt_57 : decode cX1_actionAt 57 = .ok (.ireturn, 1) := by decide +kernel
theorem dX1_actionAt_58 : decode cX1_actionAt 58 = .ok (.aload_n 0, 1) := by decide +kernel
theorem dX1_actionAt_59 : decode cX1_actionAt 59 = .ok (.getfield 25, 3) := by decide +kernel
theorem dX1_actionAt_62 : decode cX1_actionAt 62 = .ok (.iload 6, 2) := by decide +kernel
theorem dX1_actionAt_64 : decode cX1_actionAt 64 = .ok (.iaload, 1) := by decide +kernel
theorem dX1_actionAt_65 : decode cX1_actionAt 65 = .ok (.istore 4, 2) := by decide +kernel
theorem dX1_actionAt_67 : decode cX1_actionAt 67 = .ok (.aload_n 0, 1) := by decide +kernel
theorem dX1_actionAt_68 : decode cX1_actionAt 68 = .ok (.getfield 28, 3) := by decide +kernel
theorem dX1_actionAt_71 : decode cX1_actionAt 71 = .ok (.iload 6, 2) := by decide +kernel
theorem dX1_actionAt_73 : decode cX1_actionAt 73 = .ok (.iaload, 1) := by decide +kernel
theorem dX1_actionAt_74 : decode cX1_actionAt 74 = .ok (.istore_n 3, 1) := by decide +kernel
theorem dX1_actionAt_75 : decode cX1_actionAt 75 = .ok (.iinc 5 1, 3) := by decide +kernel
theorem dX1_actionAt_78 : decode cX1_actionAt 78 = .ok (.goto (-65), 3) := by decide +kernel
theorem dX1_actionAt_81 : decode cX1_actionAt 81 = .ok (.iload 4, 2) := by decide +kernel
theorem dX1_actionAt_83 : decode cX1_actionAt 83 = .ok (.ireturn, 1) := by decide +kernel
theorem dX5_in_0 : decode cX5_in 0 = .ok (.iload_n 0, 1) := by decide +kernel
theorem dX5_in_1 : decode cX5_in 1 = .ok (.iload_n 1, 1) := by decide +kernel
theorem dX5_in_2 : decode cX5_in 2 = .ok (.if_icmp .lt 12, 3) := by decide +kernel
theorem dX5_in_5 : decode cX5_in 5 = .ok (.iload_n 0, 1) := by decide +kernel
theorem dX5_in_6 : decode cX5_in 6 = .ok (.iload_n 2, 1) := by decide +kernel
theorem dX5_in_7 : decode cX5_in 7 = .ok (.if_icmp .gt 7, 3) := by decide +kernel
theorem dX5_in_10 : decode cX5_in 10 = .ok (.iconst 1, 1) := by decide +kernel
theorem dX5_in_11 : decode cX5_in 11 = .ok (.goto 4, 3) := by decide +kernel
theorem dX5_in_14 : decode cX5_in 14 = .ok (.iconst 0, 1) := by decide +kernel
theorem dX5_in_15 : decode cX5_in 15 = .ok (.ireturn, 1) := by decide +kernel
theorem dX5_change_0 : decode cX5_change 0 = .ok (.aload_n 0, 1) := by decide +kernel
theorem dX5_change_1 : decode cX5_change 1 = .ok (.iconst 0, 1) := by decide +kernel
theorem dX5_change_2 : decode cX5_change 2 = .ok (.putfield 81, 3) := by decide +kernel
theorem dX5_change_5 : decode cX5_change 5 = .ok (.aload_n 0, 1) := by decide +kernel
theorem dX5_change_6 : decode cX5_change 6 = .ok (.bipush (-11), 2) := by decide +kernel
theorem dX5_change_8 : decode cX5_change 8 = .ok (.putfield 23, 3) := by decide +kernel
theorem dX5_change_11 : decode cX5_change 11 = .ok (.return_, 1) := by decide +kernel
theorem dX5_isPosition_0 : decode cX5_isPosition 0 = .ok (.iload_n 0, 1) := by decide +kernel
theorem dX5_isPosition_1 : decode cX5_isPosition 1 = .ok (.iconst 0, 1) := by decide +kernel
theorem dX5_isPosition_2 : decode cX5_isPosition 2 = .ok (.bipush 11, 2) := by decide +kernel
theorem dX5_isPosition_4 : decode cX5_isPosition 4 = .ok (.invokestatic 84, 3) := by decide +kernel
theorem dX5_isPosition_7 : decode cX5_isPosition 7 = .ok (.ireturn, 1) := by decide +kernel
theorem dX5_isLocomotive_0 : decode cX5_isLocomotive 0 = .ok (.iload_n 1, 1) := by decide +kernel
theorem dX5_isLocomotive_1 : decode cX5_isLocomotive 1 = .ok (.iconst 0, 1) := by decide +kernel
theorem dX5_isLocomotive_2 : decode cX5_isLocomotive 2 = .ok (.aload_n 0, 1) := by decide +kernel
theorem dX5_isLocomotive_3 : decode cX5_isLocomotive 3 = .ok (.getfield 7, 3) := by decide +kernel
theorem dX5_isLocomotive_6 : decode cX5_isLocomotive 6 = .ok (.bipush 14, 2) := by decide +kernel
theorem dX5_isLocomotive_8 : decode cX5_isLocomotive 8 = .ok (.iaload, 1) := by decide +kernel
theorem dX5_isLocomotive_9 : decode cX5_isLocomotive 9 = .ok (.iconst 1, 1) := by decide +kernel
theorem dX5_isLocomotive_10 : decode cX5_isLocomotive 10 = .ok (.isub, 1) := by decide +kernel
theorem dX5_isLocomotive_11 : decode cX5_isLocomotive 11 = .ok (.invokestatic 84, 3) := by decide +kernel
theorem dX5_isLocomotive_14 : decode cX5_isLocomotive 14 = .ok (.ireturn, 1) := by decide +kernel
theorem dX5_isTrack_0 : decode cX5_isTrack 0 = .ok (.aload_n 0, 1) := by decide +kernel
theorem dX5_isTrack_1 : decode cX5_isTrack 1 = .ok (.getfield 7, 3) := by decide +kernel
theorem dX5_isTrack_4 : decode cX5_isTrack 4 = .ok (.iconst 0, 1) := by decide +kernel
theorem dX5_isTrack_5 : decode cX5_isTrack 5 = .ok (.iload_n 1, 1) := by decide +kernel
theorem dX5_isTrack_6 : decode cX5_isTrack 6 = .ok (.iadd, 1) := by decide +kernel
theorem dX5_isTrack_7 : decode cX5_isTrack 7 = .ok (.iaload, 1) := by decide +kernel
theorem dX5_isTrack_8 : decode cX5_isTrack 8 = .ok (.ifCond .le 7, 3) := by decide +kernel
theorem dX5_isTrack_11 : decode cX5_isTrack 11 = .ok (.iconst 1, 1) := by decide +kernel
theorem dX5_isTrack_12 : decode cX5_isTrack 12 = .ok (.goto 4, 3) := by decide +kernel
theorem dX5_isTrack_15 : decode cX5_isTrack 15 = .ok (.iconst 0, 1) := by decide +kernel
theorem dX5_isTrack_16 : decode cX5_isTrack 16 = .ok (.ireturn, 1) := by decide +kernel
theorem dX5_cell_0 : decode cX5_cell 0 = .ok (.bipush 44, 2) := by decide +kernel
theorem dX5_cell_2 : decode cX5_cell 2 = .ok (.bipush 8, 2) := by decide +kernel
theorem dX5_cell_4 : decode cX5_cell 4 = .ok (.iload_n 1, 1) := by decide +kernel
theorem dX5_cell_5 : decode cX5_cell 5 = .ok (.imul, 1) := by decide +kernel
theorem dX5_cell_6 : decode cX5_cell 6 = .ok (.iadd, 1) := by decide +kernel
theorem dX5_cell_7 : decode cX5_cell 7 = .ok (.iload_n 2, 1) := by decide +kernel
theorem dX5_cell_8 : decode cX5_cell 8 = .ok (.iadd, 1) := by decide +kernel
theorem dX5_cell_9 : decode cX5_cell 9 = .ok (.ireturn, 1) := by decide +kernel
theorem dX5_used_0 : decode cX5_used 0 = .ok (.iconst 0, 1) := by decide +kernel
theorem dX5_used_1 : decode cX5_used 1 = .ok (.istore_n 2, 1) := by decide +kernel
theorem dX5_used_2 : decode cX5_used 2 = .ok (.iconst 0, 1) := by decide +kernel
theorem dX5_used_3 : decode cX5_used 3 = .ok (.istore_n 3, 1) := by decide +kernel
theorem dX5_used_4 : decode cX5_used 4 = .ok (.iload_n 3, 1) := by decide +kernel
theorem dX5_used_5 : decode cX5_used 5 = .ok (.aload_n 0, 1) := by decide +kernel
theorem dX5_used_6 : decode cX5_used 6 = .ok (.getfield 7, 3) := by decide +kernel
theorem dX5_used_9 : decode cX5_used 9 = .ok (.bipush 31, 2) := by decide +kernel
theorem dX5_used_11 : decode cX5_used 11 = .ok (.iload_n 1, 1) := by decide +kernel
theorem dX5_used_12 : decode cX5_used 12 = .ok (.iadd, 1) := by decide +kernel
theorem dX5_used_13 : decode cX5_used 13 = .ok (.iaload, 1) := by decide +kernel
theorem dX5_used_14 : decode cX5_used 14 = .ok (.if_icmp .ge 31, 3) := by decide +kernel
theorem dX5_used_17 : decode cX5_used 17 = .ok (.iload_n 2, 1) := by decide +kernel
theorem dX5_used_18 : decode cX5_used 18 = .ok (.aload_n 0, 1) := by decide +kernel
theorem dX5_used_19 : decode cX5_used 19 = .ok (.getfield 7, 3) := by decide +kernel
theorem dX5_used_22 : decode cX5_used 22 = .ok (.bipush 15, 2) := by decide +kernel
theorem dX5_used_24 : decode cX5_used 24 = .ok (.aload_n 0, 1) := by decide +kernel
theorem dX5_used_25 : decode cX5_used 25 = .ok (.getfield 7, 3) := by decide +kernel
theorem dX5_used_28 : decode cX5_used 28 = .ok (.aload_n 0, 1) := by decide +kernel
theorem dX5_used_29 : decode cX5_used 29 = .ok (.iload_n 1, 1) := by decide +kernel
theorem dX5_used_30 : decode cX5_used 30 = .ok (.iload_n 3, 1) := by decide +kernel
theorem dX5_used_31 : decode cX5_used 31 = .ok (.invokevirtual 88, 3) := by decide +kernel
theorem dX5_used_34 : decode cX5_used 34 = .ok (.iaload, 1) := by decide +kernel
theorem dX5_used_35 : decode cX5_used 35 = .ok (.iadd, 1) := by decide +kernel
theorem dX5_used_36 : decode cX5_used 36 = .ok (.iaload, 1) := by decide +kernel
theorem dX5_used_37 : decode cX5_used 37 = .ok (.iadd, 1) := by decide +kernel
theorem dX5_used_38 : decode cX5_used 38 = .ok (.istore_n 2, 1) := by decide +kernel
theorem dX5_used_39 : decode cX5_used 39 = .ok (.iinc 3 1, 3) := by decide +kernel
theorem dX5_used_42 : decode cX5_used 42 = .ok (.goto (-38), 3) := by decide +kernel
theorem dX5_used_45 : decode cX5_used 45 = .ok (.iload_n 2, 1) := by decide +kernel
theorem dX5_used_46 : decode cX5_used 46 = .ok (.ireturn, 1) := by decide +kernel
theorem dX5_setTrack_0 : decode cX5_setTrack 0 = .ok (.iload_n 1, 1) := by decide +kernel
theorem dX5_setTrack_1 : decode cX5_setTrack 1 = .ok (.invokestatic 92, 3) := by decide +kernel
theorem dX5_setTrack_4 : decode cX5_setTrack 4 = .ok (.ifCond .ne 5, 3) := by decide +kernel
theorem dX5_setTrack_7 : decode cX5_setTrack 7 = .ok (.iconst (-1), 1) := by decide +kernel
theorem dX5_setTrack_8 : decode cX5_setTrack 8 = .ok (.ireturn, 1) := by decide +kernel
theorem dX5_setTrack_9 : decode cX5_setTrack 9 = .ok (.iload_n 2, 1) := by decide +kernel
theorem dX5_setTrack_10 : decode cX5_setTrack 10 = .ok (.iconst 0, 1) := by decide +kernel
theorem dX5_setTrack_11 : decode cX5_setTrack 11 = .ok (.bipush 60, 2) := by decide +kernel
theorem dX5_setTrack_13 : decode cX5_setTrack 13 = .ok (.invokestatic 84, 3) := by decide +kernel
theorem dX5_setTrack_16 : decode cX5_setTrack 16 = .ok (.ifCond .ne 6, 3) := by decide +kernel
theorem dX5_setTrack_19 : decode cX5_setTrack 19 = .ok (.bipush (-4), 2) := by decide +kernel
theorem dX5_setTrack_21 : decode cX5_setTrack 21 = .ok (.ireturn, 1) := by decide +kernel
theorem dX5_setTrack_22 : decode cX5_setTrack 22 = .ok (.aload_n 0, 1) := by decide +kernel
theorem dX5_setTrack_23 : decode cX5_setTrack 23 = .ok (.iload_n 1, 1) := by decide +kernel
theorem dX5_setTrack_24 : decode cX5_setTrack 24 = .ok (.invokevirtual 96, 3) := by decide +kernel
theorem dX5_setTrack_27 : decode cX5_setTrack 27 = .ok (.iload_n 2, 1) := by decide +kernel
theorem dX5_setTrack_28 : decode cX5_setTrack 28 = .ok (.if_icmp .le 6, 3) := by decide +kernel
theorem dX5_setTrack_31 : decode cX5_setTrack 31 = .ok (.bipush (-5), 2) := by decide +kernel
theorem dX5_setTrack_33 : decode cX5_setTrack 33 = .ok (.ireturn, 1) := by decide +kernel
theorem dX5_setTrack_34 : decode cX5_setTrack 34 = .ok (.aload_n 0, 1) := by decide +kernel
theorem dX5_setTrack_35 : decode cX5_setTrack 35 = .ok (.getfield 7, 3) := by decide +kernel
theorem dX5_setTrack_38 : decode cX5_setTrack 38 = .ok (.iconst 0, 1) := by decide +kernel
theorem dX5_setTrack_39 : decode cX5_setTrack 39 = .ok (.iload_n 1, 1) := by decide +kernel
theorem dX5_setTrack_40 : decode cX5_setTrack 40 = .ok (.iadd, 1) := by decide +kernel
theorem dX5_setTrack_41 : decode cX5_setTrack 41 = .ok (.iaload, 1) := by decide +kernel
theorem dX5_setTrack_42 : decode cX5_setTrack 42 = .ok (.istore_n 3, 1) := by decide +kernel
theorem dX5_setTrack_43 : decode cX5_setTrack 43 = .ok (.aload_n 0, 1) := by decide +kernel
theorem dX5_setTrack_44 : decode cX5_setTrack 44 = .ok (.getfield 7, 3) := by decide +kernel
theorem dX5_setTrack_47 : decode cX5_setTrack 47 = .ok (.iconst 0, 1) := by decide +kernel
theorem dX5_setTrack_48 : decode cX5_setTrack 48 = .ok (.iload_n 1, 1) := by decide +kernel
theorem dX5_setTrack_49 : decode cX5_setTrack 49 = .ok (.iadd, 1) := by decide +kernel
theorem dX5_setTrack_50 : decode cX5_setTrack 50 = .ok (.iload_n 2, 1) := by decide +kernel
theorem dX5_setTrack_51 : decode cX5_setTrack 51 = .ok (.iastore, 1) := by decide +kernel
theorem dX5_setTrack_52 : decode cX5_setTrack 52 = .ok (.aload_n 0, 1) := by decide +kernel
theorem dX5_setTrack_53 : decode cX5_setTrack 53 = .ok (.invokevirtual 100, 3) := by decide +kernel
theorem dX5_setTrack_56 : decode cX5_setTrack 56 = .ok (.iload_n 3, 1) := by decide +kernel
theorem dX5_setTrack_57 : decode cX5_setTrack 57 = .ok (.ireturn, 1) := by decide +kernel
theorem dX5_setTableLength_0 : decode cX5_setTableLength 0 = .ok (.iload_n 1, 1) := by decide +kernel
theorem dX5_setTableLength_1 : decode cX5_setTableLength 1 = .ok (.iconst 1, 1) := by decide +kernel
theorem dX5_setTableLength_2 : decode cX5_setTableLength 2 = .ok (.bipush 60, 2) := by decide +kernel
theorem dX5_setTableLength_4 : decode cX5_setTableLength 4 = .ok (.invokestatic 84, 3) := by decide +kernel
theorem dX5_setTableLength_7 : decode cX5_setTableLength 7 = .ok (.ifCond .ne 6, 3) := by decide +kernel
theorem dX5_setTableLength_10 : decode cX5_setTableLength 10 = .ok (.bipush (-4), 2) := by decide +kernel
theorem dX5_setTableLength_12 : decode cX5_setTableLength 12 = .ok (.ireturn, 1) := by decide +kernel
theorem dX5_setTableLength_13 : decode cX5_setTableLength 13 = .ok (.aload_n 0, 1) := by decide +kernel
theorem dX5_setTableLength_14 : decode cX5_setTableLength 14 = .ok (.bipush 12, 2) := by decide +kernel
theorem dX5_setTableLength_16 : decode cX5_setTableLength 16 = .ok (.invokevirtual 96, 3) := by decide +kernel
theorem dX5_setTableLength_19 : decode cX5_setTableLength 19 = .ok (.iload_n 1, 1) := by decide +kernel
theorem dX5_setTableLength_20 : decode cX5_setTableLength 20 = .ok (.if_icmp .le 6, 3) := by decide +kernel
theorem dX5_setTableLength_23 : decode cX5_setTableLength 23 = .ok (.bipush (-5), 2) := by decide +kernel
theorem dX5_setTableLength_25 : decode cX5_setTableLength 25 = .ok (.ireturn, 1) := by decide +kernel
theorem dX5_setTableLength_26 : decode cX5_setTableLength 26 = .ok (.aload_n 0, 1) := by decide +kernel
theorem dX5_setTableLength_27 : decode cX5_setTableLength 27 = .ok (.getfield 7, 3) := by decide +kernel
theorem dX5_setTableLength_30 : decode cX5_setTableLength 30 = .ok (.bipush 12, 2) := by decide +kernel
theorem dX5_setTableLength_32 : decode cX5_setTableLength 32 = .ok (.iaload, 1) := by decide +kernel
theorem dX5_setTableLength_33 : decode cX5_setTableLength 33 = .ok (.istore_n 2, 1) := by decide +kernel
theorem dX5_setTableLength_34 : decode cX5_setTableLength 34 = .ok (.aload_n 0, 1) := by decide +kernel
theorem dX5_setTableLength_35 : decode cX5_setTableLength 35 = .ok (.getfield 7, 3) := by decide +kernel
theorem dX5_setTableLength_38 : decode cX5_setTableLength 38 = .ok (.bipush 12, 2) := by decide +kernel
theorem dX5_setTableLength_40 : decode cX5_setTableLength 40 = .ok (.iload_n 1, 1) := by decide +kernel
theorem dX5_setTableLength_41 : decode cX5_setTableLength 41 = .ok (.iastore, 1) := by decide +kernel
theorem dX5_setTableLength_42 : decode cX5_setTableLength 42 = .ok (.aload_n 0, 1) := by decide +kernel
theorem dX5_setTableLength_43 : decode cX5_setTableLength 43 = .ok (.invokevirtual 100, 3) := by decide +kernel
theorem dX5_setTableLength_46 : decode cX5_setTableLength 46 = .ok (.iload_n 2, 1) := by decide +kernel
theorem dX5_setTableLength_47 : decode cX5_setTableLength 47 = .ok (.ireturn, 1) := by decide +kernel
theorem dX5_insert_0 : decode cX5_insert 0 = .ok (.aload_n 0, 1) := by decide +kernel
theorem dX5_insert_1 : decode cX5_insert 1 = .ok (.getfield 7, 3) := by decide +kernel
theorem dX5_insert_4 : decode cX5_insert 4 = .ok (.bipush 31, 2) := by decide +kernel
theorem dX5_insert_6 : decode cX5_insert 6 = .ok (.iload_n 1, 1) := by decide +kernel
theorem dX5_insert_7 : decode cX5_insert 7 = .ok (.iadd, 1) := by decide +kernel
theorem dX5_insert_8 : decode cX5_insert 8 = .ok (.iaload, 1) := by decide +kernel
theorem dX5_insert_9 : decode cX5_insert 9 = .ok (.istore 4, 2) := by decide +kernel
theorem dX5_insert_11 : decode cX5_insert 11 = .ok (.iload 4, 2) := by decide +kernel
theorem dX5_insert_13 : decode cX5_insert 13 = .ok (.iload_n 2, 1) := by decide +kernel
theorem dX5_insert_14 : decode cX5_insert 14 = .ok (.if_icmp .le 35, 3) := by decide +kernel
theorem dX5_insert_17 : decode cX5_insert 17 = .ok (.aload_n 0, 1) := by decide +kernel
theorem dX5_insert_18 : decode cX5_insert 18 = .ok (.getfield 7, 3) := by decide +kernel
theorem dX5_insert_21 : decode cX5_insert 21 = .ok (.aload_n 0, 1) := by decide +kernel
theorem dX5_insert_22 : decode cX5_insert 22 = .ok (.iload_n 1, 1) := by decide +kernel
theorem dX5_insert_23 : decode cX5_insert 23 = .ok (.iload 4, 2) := by decide +kernel
theorem dX5_insert_25 : decode cX5_insert 25 = .ok (.invokevirtual 88, 3) := by decide +kernel
theorem dX5_insert_28 : decode cX5_insert 28 = .ok (.aload_n 0, 1) := by decide +kernel
theorem dX5_insert_29 : decode cX5_insert 29 = .ok (.getfield 7, 3) := by decide +kernel
theorem dX5_insert_32 : decode cX5_insert 32 = .ok (.aload_n 0, 1) := by decide +kernel
theorem dX5_insert_33 : decode cX5_insert 33 = .ok (.iload_n 1, 1) := by decide +kernel
theorem dX5_insert_34 : decode cX5_insert 34 = .ok (.iload 4, 2) := by decide +kernel
theorem dX5_insert_36 : decode cX5_insert 36 = .ok (.iconst 1, 1) := by decide +kernel
theorem dX5_insert_37 : decode cX5_insert 37 = .ok (.isub, 1) := by decide +kernel
theorem dX5_insert_38 : decode cX5_insert 38 = .ok (.invokevirtual 88, 3) := by decide +kernel
theorem dX5_insert_41 : decode cX5_insert 41 = .ok (.iaload, 1) := by decide +kernel
theorem dX5_insert_42 : decode cX5_insert 42 = .ok (.iastore, 1) := by decide +kernel
theorem dX5_insert_43 : decode cX5_insert 43 = .ok (.iinc 4 (-1), 3) := by decide +kernel
theorem dX5_insert_46 : decode cX5_insert 46 = .ok (.goto (-35), 3) := by decide +kernel
theorem dX5_insert_49 : decode cX5_insert 49 = .ok (.aload_n 0, 1) := by decide +kernel
theorem dX5_insert_50 : decode cX5_insert 50 = .ok (.getfield 7, 3) := by decide +kernel
theorem dX5_insert_53 : decode cX5_insert 53 = .ok (.aload_n 0, 1) := by decide +kernel
theorem dX5_insert_54 : decode cX5_insert 54 = .ok (.iload_n 1, 1) := by decide +kernel
theorem dX5_insert_55 : decode cX5_insert 55 = .ok (.iload_n 2, 1) := by decide +kernel
theorem dX5_insert_56 : decode cX5_insert 56 = .ok (.invokevirtual 88, 3) := by decide +kernel
theorem dX5_insert_59 : decode cX5_insert 59 = .ok (.iload_n 3, 1) := by decide +kernel
theorem dX5_insert_60 : decode cX5_insert 60 = .ok (.iastore, 1) := by decide +kernel
theorem dX5_insert_61 : decode cX5_insert 61 = .ok (.aload_n 0, 1) := by decide +kernel
theorem dX5_insert_62 : decode cX5_insert 62 = .ok (.getfield 7, 3) := by decide +kernel
theorem dX5_insert_65 : decode cX5_insert 65 = .ok (.bipush 31, 2) := by decide +kernel
theorem dX5_insert_67 : decode cX5_insert 67 = .ok (.iload_n 1, 1) := by decide +kernel
theorem dX5_insert_68 : decode cX5_insert 68 = .ok (.iadd, 1) := by decide +kernel
theorem dX5_insert_69 : decode cX5_insert 69 = .ok (.dup2, 1) := by decide +kernel
theorem dX5_insert_70 : decode cX5_insert 70 = .ok (.iaload, 1) := by decide +kernel
theorem dX5_insert_71 : decode cX5_insert 71 = .ok (.iconst 1, 1) := by decide +kernel
theorem dX5_insert_72 : decode cX5_insert 72 = .ok (.iadd, 1) := by decide +kernel
theorem dX5_insert_73 : decode cX5_insert 73 = .ok (.iastore, 1) := by decide +kernel
theorem dX5_insert_74 : decode cX5_insert 74 = .ok (.return_, 1) := by decide +kernel
theorem dX5_take_0 : decode cX5_take 0 = .ok (.aload_n 0, 1) := by decide +kernel
theorem dX5_take_1 : decode cX5_take 1 = .ok (.getfield 7, 3) := by decide +kernel
theorem dX5_take_4 : decode cX5_take 4 = .ok (.aload_n 0, 1) := by decide +kernel
theorem dX5_take_5 : decode cX5_take 5 = .ok (.iload_n 1, 1) := by decide +kernel
theorem dX5_take_6 : decode cX5_take 6 = .ok (.iload_n 2, 1) := by decide +kernel
theorem dX5_take_7 : decode cX5_take 7 = .ok (.invokevirtual 88, 3) := by decide +kernel
theorem dX5_take_10 : decode cX5_take 10 = .ok (.iaload, 1) := by decide +kernel
theorem dX5_take_11 : decode cX5_take 11 = .ok (.istore_n 3, 1) := by decide +kernel
theorem dX5_take_12 : decode cX5_take 12 = .ok (.aload_n 0, 1) := by decide +kernel
theorem dX5_take_13 : decode cX5_take 13 = .ok (.getfield 7, 3) := by decide +kernel
theorem dX5_take_16 : decode cX5_take 16 = .ok (.bipush 31, 2) := by decide +kernel
theorem dX5_take_18 : decode cX5_take 18 = .ok (.iload_n 1, 1) := by decide +kernel
theorem dX5_take_19 : decode cX5_take 19 = .ok (.iadd, 1) := by decide +kernel
theorem dX5_take_20 : decode cX5_take 20 = .ok (.dup2, 1) := by decide +kernel
theorem dX5_take_21 : decode cX5_take 21 = .ok (.iaload, 1) := by decide +kernel
theorem dX5_take_22 : decode cX5_take 22 = .ok (.iconst 1, 1) := by decide +kernel
theorem dX5_take_23 : decode cX5_take 23 = .ok (.isub, 1) := by decide +kernel
theorem dX5_take_24 : decode cX5_take 24 = .ok (.iastore, 1) := by decide +kernel
theorem dX5_take_25 : decode cX5_take 25 = .ok (.iload_n 2, 1) := by decide +kernel
theorem dX5_take_26 : decode cX5_take 26 = .ok (.istore 4, 2) := by decide +kernel
theorem dX5_take_28 : decode cX5_take 28 = .ok (.iload 4, 2) := by decide +kernel
theorem dX5_take_30 : decode cX5_take 30 = .ok (.aload_n 0, 1) := by decide +kernel
theorem dX5_take_31 : decode cX5_take 31 = .ok (.getfield 7, 3) := by decide +kernel
theorem dX5_take_34 : decode cX5_take 34 = .ok (.bipush 31, 2) := by decide +kernel
theorem dX5_take_36 : decode cX5_take 36 = .ok (.iload_n 1, 1) := by decide +kernel
theorem dX5_take_37 : decode cX5_take 37 = .ok (.iadd, 1) := by decide +kernel
theorem dX5_take_38 : decode cX5_take 38 = .ok (.iaload, 1) := by decide +kernel
theorem dX5_take_39 : decode cX5_take 39 = .ok (.if_icmp .ge 35, 3) := by decide +kernel
theorem dX5_take_42 : decode cX5_take 42 = .ok (.aload_n 0, 1) := by decide +kernel
theorem dX5_take_43 : decode cX5_take 43 = .ok (.getfield 7, 3) := by decide +kernel
theorem dX5_take_46 : decode cX5_take 46 = .ok (.aload_n 0, 1) := by decide +kernel
theorem dX5_take_47 : decode cX5_take 47 = .ok (.iload_n 1, 1) := by decide +kernel
theorem dX5_take_48 : decode cX5_take 48 = .ok (.iload 4, 2) := by decide +kernel
theorem dX5_take_50 : decode cX5_take 50 = .ok (.invokevirtual 88, 3) := by decide +kernel
theorem dX5_take_53 : decode cX5_take 53 = .ok (.aload_n 0, 1) := by decide +kernel
theorem dX5_take_54 : decode cX5_take 54 = .ok (.getfield 7, 3) := by decide +kernel
theorem dX5_take_57 : decode cX5_take 57 = .ok (.aload_n 0, 1) := by decide +kernel
theorem dX5_take_58 : decode cX5_take 58 = .ok (.iload_n 1, 1) := by decide +kernel
theorem dX5_take_59 : decode cX5_take 59 = .ok (.iload 4, 2) := by decide +kernel
theorem dX5_take_61 : decode cX5_take 61 = .ok (.iconst 1, 1) := by decide +kernel
theorem dX5_take_62 : decode cX5_take 62 = .ok (.iadd, 1) := by decide +kernel
theorem dX5_take_63 : decode cX5_take 63 = .ok (.invokevirtual 88, 3) := by decide +kernel
theorem dX5_take_66 : decode cX5_take 66 = .ok (.iaload, 1) := by decide +kernel
theorem dX5_take_67 : decode cX5_take 67 = .ok (.iastore, 1) := by decide +kernel
theorem dX5_take_68 : decode cX5_take 68 = .ok (.iinc 4 1, 3) := by decide +kernel
theorem dX5_take_71 : decode cX5_take 71 = .ok (.goto (-43), 3) := by decide +kernel
theorem dX5_take_74 : decode cX5_take 74 = .ok (.iload_n 3, 1) := by decide +kernel
theorem dX5_take_75 : decode cX5_take 75 = .ok (.ireturn, 1) := by decide +kernel
theorem dX5_addLocomotive_0 : decode cX5_addLocomotive 0 = .ok (.iload_n 2, 1) := by decide +kernel
theorem dX5_addLocomotive_1 : decode cX5_addLocomotive 1 = .ok (.invokestatic 92, 3) := by decide +kernel
theorem dX5_addLocomotive_4 : decode cX5_addLocomotive 4 = .ok (.ifCond .ne 5, 3) := by decide +kernel
theorem dX5_addLocomotive_7 : decode cX5_addLocomotive 7 = .ok (.iconst (-1), 1) := by decide +kernel
theorem dX5_addLocomotive_8 : decode cX5_addLocomotive 8 = .ok (.ireturn, 1) := by decide +kernel
theorem dX5_addLocomotive_9 : decode cX5_addLocomotive 9 = .ok (.aload_n 0, 1) := by decide +kernel
theorem dX5_addLocomotive_10 : decode cX5_addLocomotive 10 = .ok (.iload_n 2, 1) := by decide +kernel
theorem dX5_addLocomotive_11 : decode cX5_addLocomotive 11 = .ok (.invokevirtual 103, 3) := by decide +kernel
theorem dX5_addLocomotive_14 : decode cX5_addLocomotive 14 = .ok (.ifCond .ne 6, 3) := by decide +kernel
theorem dX5_addLocomotive_17 : decode cX5_addLocomotive 17 = .ok (.bipush (-2), 2) := by decide +kernel
theorem dX5_addLocomotive_19 : decode cX5_addLocomotive 19 = .ok (.ireturn, 1) := by decide +kernel
theorem dX5_addLocomotive_20 : decode cX5_addLocomotive 20 = .ok (.iload_n 1, 1) := by decide +kernel
theorem dX5_addLocomotive_21 : decode cX5_addLocomotive 21 = .ok (.iconst 1, 1) := by decide +kernel
theorem dX5_addLocomotive_22 : decode cX5_addLocomotive 22 = .ok (.bipush 20, 2) := by decide +kernel
theorem dX5_addLocomotive_24 : decode cX5_addLocomotive 24 = .ok (.invokestatic 84, 3) := by decide +kernel
theorem dX5_addLocomotive_27 : decode cX5_addLocomotive 27 = .ok (.ifCond .ne 6, 3) := by decide +kernel
theorem dX5_addLocomotive_30 : decode cX5_addLocomotive 30 = .ok (.bipush (-4), 2) := by decide +kernel
theorem dX5_addLocomotive_32 : decode cX5_addLocomotive 32 = .ok (.ireturn, 1) := by decide +kernel
theorem dX5_addLocomotive_33 : decode cX5_addLocomotive 33 = .ok (.aload_n 0, 1) := by decide +kernel
theorem dX5_addLocomotive_34 : decode cX5_addLocomotive 34 = .ok (.iload_n 2, 1) := by decide +kernel
theorem dX5_addLocomotive_35 : decode cX5_addLocomotive 35 = .ok (.invokevirtual 96, 3) := by decide +kernel
theorem dX5_addLocomotive_38 : decode cX5_addLocomotive 38 = .ok (.iload_n 1, 1) := by decide +kernel
theorem dX5_addLocomotive_39 : decode cX5_addLocomotive 39 = .ok (.iadd, 1) := by decide +kernel
theorem dX5_addLocomotive_40 : decode cX5_addLocomotive 40 = .ok (.aload_n 0, 1) := by decide +kernel
theorem dX5_addLocomotive_41 : decode cX5_addLocomotive 41 = .ok (.getfield 7, 3) := by decide +kernel
theorem dX5_addLocomotive_44 : decode cX5_addLocomotive 44 = .ok (.iconst 0, 1) := by decide +kernel
theorem dX5_addLocomotive_45 : decode cX5_addLocomotive 45 = .ok (.iload_n 2, 1) := by decide +kernel
theorem dX5_addLocomotive_46 : decode cX5_addLocomotive 46 = .ok (.iadd, 1) := by decide +kernel
theorem dX5_addLocomotive_47 : decode cX5_addLocomotive 47 = .ok (.iaload, 1) := by decide +kernel
theorem dX5_addLocomotive_48 : decode cX5_addLocomotive 48 = .ok (.if_icmp .le 6, 3) := by decide +kernel
theorem dX5_addLocomotive_51 : decode cX5_addLocomotive 51 = .ok (.bipush (-8), 2) := by decide +kernel
theorem dX5_addLocomotive_53 : decode cX5_addLocomotive 53 = .ok (.ireturn, 1) := by decide +kernel
theorem dX5_addLocomotive_54 : decode cX5_addLocomotive 54 = .ok (.aload_n 0, 1) := by decide +kernel
theorem dX5_addLocomotive_55 : decode cX5_addLocomotive 55 = .ok (.getfield 7, 3) := by decide +kernel
theorem dX5_addLocomotive_58 : decode cX5_addLocomotive 58 = .ok (.bipush 14, 2) := by decide +kernel
theorem dX5_addLocomotive_60 : decode cX5_addLocomotive 60 = .ok (.iaload, 1) := by decide +kernel
theorem dX5_addLocomotive_61 : decode cX5_addLocomotive 61 = .ok (.bipush 8, 2) := by decide +kernel
theorem dX5_addLocomotive_63 : decode cX5_addLocomotive 63 = .ok (.if_icmp .ne 6, 3) := by decide +kernel
theorem dX5_addLocomotive_66 : decode cX5_addLocomotive 66 = .ok (.bipush (-9), 2) := by decide +kernel
theorem dX5_addLocomotive_68 : decode cX5_addLocomotive 68 = .ok (.ireturn, 1) := by decide +kernel
theorem dX5_addLocomotive_69 : decode cX5_addLocomotive 69 = .ok (.aload_n 0, 1) := by decide +kernel
theorem dX5_addLocomotive_70 : decode cX5_addLocomotive 70 = .ok (.getfield 7, 3) := by decide +kernel
theorem dX5_addLocomotive_73 : decode cX5_addLocomotive 73 = .ok (.bipush 14, 2) := by decide +kernel
theorem dX5_addLocomotive_75 : decode cX5_addLocomotive 75 = .ok (.iaload, 1) := by decide +kernel
theorem dX5_addLocomotive_76 : decode cX5_addLocomotive 76 = .ok (.istore_n 3, 1) := by decide +kernel
theorem dX5_addLocomotive_77 : decode cX5_addLocomotive 77 = .ok (.aload_n 0, 1) := by decide +kernel
theorem dX5_addLocomotive_78 : decode cX5_addLocomotive 78 = .ok (.getfield 7, 3) := by decide +kernel
theorem dX5_addLocomotive_81 : decode cX5_addLocomotive 81 = .ok (.bipush 15, 2) := by decide +kernel
theorem dX5_addLocomotive_83 : decode cX5_addLocomotive 83 = .ok (.iload_n 3, 1) := by decide +kernel
theorem dX5_addLocomotive_84 : decode cX5_addLocomotive 84 = .ok (.iadd, 1) := by decide +kernel
theorem dX5_addLocomotive_85 : decode cX5_addLocomotive 85 = .ok (.iload_n 1, 1) := by decide +kernel
theorem dX5_addLocomotive_86 : decode cX5_addLocomotive 86 = .ok (.iastore, 1) := by decide +kernel
theorem dX5_addLocomotive_87 : decode cX5_addLocomotive 87 = .ok (.aload_n 0, 1) := by decide +kernel
theorem dX5_addLocomotive_88 : decode cX5_addLocomotive 88 = .ok (.getfield 7, 3) := by decide +kernel
theorem dX5_addLocomotive_91 : decode cX5_addLocomotive 91 = .ok (.bipush 23, 2) := by decide +kernel
theorem dX5_addLocomotive_93 : decode cX5_addLocomotive 93 = .ok (.iload_n 3, 1) := by decide +kernel
theorem dX5_addLocomotive_94 : decode cX5_addLocomotive 94 = .ok (.iadd, 1) := by decide +kernel
theorem dX5_addLocomotive_95 : decode cX5_addLocomotive 95 = .ok (.iconst 0, 1) := by decide +kernel
theorem dX5_addLocomotive_96 : decode cX5_addLocomotive 96 = .ok (.iastore, 1) := by decide +kernel
theorem dX5_addLocomotive_97 : decode cX5_addLocomotive 97 = .ok (.aload_n 0, 1) := by decide +kernel
theorem dX5_addLocomotive_98 : decode cX5_addLocomotive 98 = .ok (.getfield 7, 3) := by decide +kernel
theorem dX5_addLocomotive_101 : decode cX5_addLocomotive 101 = .ok (.bipush 14, 2) := by decide +kernel
theorem dX5_addLocomotive_103 : decode cX5_addLocomotive 103 = .ok (.dup2, 1) := by decide +kernel
theorem dX5_addLocomotive_104 : decode cX5_addLocomotive 104 = .ok (.iaload, 1) := by decide +kernel
theorem dX5_addLocomotive_105 : decode cX5_addLocomotive 105 = .ok (.iconst 1, 1) := by decide +kernel
theorem dX5_addLocomotive_106 : decode cX5_addLocomotive 106 = .ok (.iadd, 1) := by decide +kernel
theorem dX5_addLocomotive_107 : decode cX5_addLocomotive 107 = .ok (.iastore, 1) := by decide +kernel
theorem dX5_addLocomotive_108 : decode cX5_addLocomotive 108 = .ok (.aload_n 0, 1) := by decide +kernel
theorem dX5_addLocomotive_109 : decode cX5_addLocomotive 109 = .ok (.iload_n 2, 1) := by decide +kernel
theorem dX5_addLocomotive_110 : decode cX5_addLocomotive 110 = .ok (.iconst 0, 1) := by decide +kernel
theorem dX5_addLocomotive_111 : decode cX5_addLocomotive 111 = .ok (.iload_n 3, 1) := by decide +kernel
theorem dX5_addLocomotive_112 : decode cX5_addLocomotive 112 = .ok (.invokevirtual 106, 3) := by decide +kernel
theorem dX5_addLocomotive_115 : decode cX5_addLocomotive 115 = .ok (.aload_n 0, 1) := by decide +kernel
theorem dX5_addLocomotive_116 : decode cX5_addLocomotive 116 = .ok (.invokevirtual 100, 3) := by decide +kernel
theorem dX5_addLocomotive_119 : decode cX5_addLocomotive 119 = .ok (.iload_n 3, 1) := by decide +kernel
theorem dX5_addLocomotive_120 : decode cX5_addLocomotive 120 = .ok (.ireturn, 1) := by decide +kernel
theorem dX5_placeOf_0 : decode cX5_placeOf 0 = .ok (.iconst 0, 1) := by decide +kernel
theorem dX5_placeOf_1 : decode cX5_placeOf 1 = .ok (.istore_n 2, 1) := by decide +kernel
theorem dX5_placeOf_2 : decode cX5_placeOf 2 = .ok (.iload_n 2, 1) := by decide +kernel
theorem dX5_placeOf_3 : decode cX5_placeOf 3 = .ok (.bipush 13, 2) := by decide +kernel
theorem dX5_placeOf_5 : decode cX5_placeOf 5 = .ok (.if_icmp .ge 47, 3) := by decide +kernel
theorem dX5_placeOf_8 : decode cX5_placeOf 8 = .ok (.iconst 0, 1) := by decide +kernel
theorem dX5_placeOf_9 : decode cX5_placeOf 9 = .ok (.istore_n 3, 1) := by decide +kernel
theorem dX5_placeOf_10 : decode cX5_placeOf 10 = .ok (.iload_n 3, 1) := by decide +kernel
theorem dX5_placeOf_11 : decode cX5_placeOf 11 = .ok (.aload_n 0, 1) := by decide +kernel
theorem dX5_placeOf_12 : decode cX5_placeOf 12 = .ok (.getfield 7, 3) := by decide +kernel
theorem dX5_placeOf_15 : decode cX5_placeOf 15 = .ok (.bipush 31, 2) := by decide +kernel
theorem dX5_placeOf_17 : decode cX5_placeOf 17 = .ok (.iload_n 2, 1) := by decide +kernel
theorem dX5_placeOf_18 : decode cX5_placeOf 18 = .ok (.iadd, 1) := by decide +kernel
theorem dX5_placeOf_19 : decode cX5_placeOf 19 = .ok (.iaload, 1) := by decide +kernel
theorem dX5_placeOf_20 : decode cX5_placeOf 20 = .ok (.if_icmp .ge 26, 3) := by decide +kernel
theorem dX5_placeOf_23 : decode cX5_placeOf 23 = .ok (.aload_n 0, 1) := by decide +kernel
theorem dX5_placeOf_24 : decode cX5_placeOf 24 = .ok (.getfield 7, 3) := by decide +kernel
theorem dX5_placeOf_27 : decode cX5_placeOf 27 = .ok (.aload_n 0, 1) := by decide +kernel
theorem dX5_placeOf_28 : decode cX5_placeOf 28 = .ok (.iload_n 2, 1) := by decide +kernel
theorem dX5_placeOf_29 : decode cX5_placeOf 29 = .ok (.iload_n 3, 1) := by decide +kernel
theorem dX5_placeOf_30 : decode cX5_placeOf 30 = .ok (.invokevirtual 88, 3) := by decide +kernel
theorem dX5_placeOf_33 : decode cX5_placeOf 33 = .ok (.iaload, 1) := by decide +kernel
theorem dX5_placeOf_34 : decode cX5_placeOf 34 = .ok (.iload_n 1, 1) := by decide +kernel
theorem dX5_placeOf_35 : decode cX5_placeOf 35 = .ok (.if_icmp .ne 5, 3) := by decide +kernel
theorem dX5_placeOf_38 : decode cX5_placeOf 38 = .ok (.iload_n 2, 1) := by decide +kernel
theorem dX5_placeOf_39 : decode cX5_placeOf 39 = .ok (.ireturn, 1) := by decide +kernel
theorem dX5_placeOf_40 : decode cX5_placeOf 40 = .ok (.iinc 3 1, 3) := by decide +kernel
theorem dX5_placeOf_43 : decode cX5_placeOf 43 = .ok (.goto (-33), 3) := by decide +kernel
theorem dX5_placeOf_46 : decode cX5_placeOf 46 = .ok (.iinc 2 1, 3) := by decide +kernel
theorem dX5_placeOf_49 : decode cX5_placeOf 49 = .ok (.goto (-47), 3) := by decide +kernel
theorem dX5_placeOf_52 : decode cX5_placeOf 52 = .ok (.bipush (-11), 2) := by decide +kernel
theorem dX5_placeOf_54 : decode cX5_placeOf 54 = .ok (.ireturn, 1) := by decide +kernel
theorem dX5_removeLocomotive_0 : decode cX5_removeLocomotive 0 = .ok (.aload_n 0, 1) := by decide +kernel
theorem dX5_removeLocomotive_1 : decode cX5_removeLocomotive 1 = .ok (.getfield 7, 3) := by decide +kernel
theorem dX5_removeLocomotive_4 : decode cX5_removeLocomotive 4 = .ok (.bipush 14, 2) := by decide +kernel
theorem dX5_removeLocomotive_6 : decode cX5_removeLocomotive 6 = .ok (.iaload, 1) := by decide +kernel
theorem dX5_removeLocomotive_7 : decode cX5_removeLocomotive 7 = .ok (.ifCond .ne 6, 3) := by decide +kernel
theorem dX5_removeLocomotive_10 : decode cX5_removeLocomotive 10 = .ok (.bipush (-11), 2) := by decide +kernel
theorem dX5_removeLocomotive_12 : decode cX5_removeLocomotive 12 = .ok (.ireturn, 1) := by decide +kernel
theorem dX5_removeLocomotive_13 : decode cX5_removeLocomotive 13 = .ok (.aload_n 0, 1) := by decide +kernel
theorem dX5_removeLocomotive_14 : decode cX5_removeLocomotive 14 = .ok (.getfield 7, 3) := by decide +kernel
theorem dX5_removeLocomotive_17 : decode cX5_removeLocomotive 17 = .ok (.bipush 14, 2) := by decide +kernel
theorem dX5_removeLocomotive_19 : decode cX5_removeLocomotive 19 = .ok (.iaload, 1) := by decide +kernel
theorem dX5_removeLocomotive_20 : decode cX5_removeLocomotive 20 = .ok (.iconst 1, 1) := by decide +kernel
theorem dX5_removeLocomotive_21 : decode cX5_removeLocomotive 21 = .ok (.isub, 1) := by decide +kernel
theorem dX5_removeLocomotive_22 : decode cX5_removeLocomotive 22 = .ok (.istore_n 1, 1) := by decide +kernel
theorem dX5_removeLocomotive_23 : decode cX5_removeLocomotive 23 = .ok (.aload_n 0, 1) := by decide +kernel
theorem dX5_removeLocomotive_24 : decode cX5_removeLocomotive 24 = .ok (.iload_n 1, 1) := by decide +kernel
theorem dX5_removeLocomotive_25 : decode cX5_removeLocomotive 25 = .ok (.invokevirtual 110, 3) := by decide +kernel
theorem dX5_removeLocomotive_28 : decode cX5_removeLocomotive 28 = .ok (.istore_n 2, 1) := by decide +kernel
theorem dX5_removeLocomotive_29 : decode cX5_removeLocomotive 29 = .ok (.iconst 0, 1) := by decide +kernel
theorem dX5_removeLocomotive_30 : decode cX5_removeLocomotive 30 = .ok (.istore_n 3, 1) := by decide +kernel
theorem dX5_removeLocomotive_31 : decode cX5_removeLocomotive 31 = .ok (.aload_n 0, 1) := by decide +kernel
theorem dX5_removeLocomotive_32 : decode cX5_removeLocomotive 32 = .ok (.getfield 7, 3) := by decide +kernel
theorem dX5_removeLocomotive_35 : decode cX5_removeLocomotive 35 = .ok (.aload_n 0, 1) := by decide +kernel
theorem dX5_removeLocomotive_36 : decode cX5_removeLocomotive 36 = .ok (.iload_n 2, 1) := by decide +kernel
theorem dX5_removeLocomotive_37 : decode cX5_removeLocomotive 37 = .ok (.iload_n 3, 1) := by decide +kernel
theorem dX5_removeLocomotive_38 : decode cX5_removeLocomotive 38 = .ok (.invokevirtual 88, 3) := by decide +kernel
theorem dX5_removeLocomotive_41 : decode cX5_removeLocomotive 41 = .ok (.iaload, 1) := by decide +kernel
theorem dX5_removeLocomotive_42 : decode cX5_removeLocomotive 42 = .ok (.iload_n 1, 1) := by decide +kernel
theorem dX5_removeLocomotive_43 : decode cX5_removeLocomotive 43 = .ok (.if_icmp .eq 9, 3) := by decide +kernel
theorem dX5_removeLocomotive_46 : decode cX5_removeLocomotive 46 = .ok (.iinc 3 1, 3) := by decide +kernel
theorem dX5_removeLocomotive_49 : decode cX5_removeLocomotive 49 = .ok (.goto (-18), 3) := by decide +kernel
theorem dX5_removeLocomotive_52 : decode cX5_removeLocomotive 52 = .ok (.aload_n 0, 1) := by decide +kernel
theorem dX5_removeLocomotive_53 : decode cX5_removeLocomotive 53 = .ok (.iload_n 2, 1) := by decide +kernel
theorem dX5_removeLocomotive_54 : decode cX5_removeLocomotive 54 = .ok (.iload_n 3, 1) := by decide +kernel
theorem dX5_removeLocomotive_55 : decode cX5_removeLocomotive 55 = .ok (.invokevirtual 113, 3) := by decide +kernel
theorem dX5_removeLocomotive_58 : decode cX5_removeLocomotive 58 = .ok (.istore 4, 2) := by decide +kernel
theorem dX5_removeLocomotive_60 : decode cX5_removeLocomotive 60 = .ok (.aload_n 0, 1) := by decide +kernel
theorem dX5_removeLocomotive_61 : decode cX5_removeLocomotive 61 = .ok (.getfield 7, 3) := by decide +kernel
theorem dX5_removeLocomotive_64 : decode cX5_removeLocomotive 64 = .ok (.bipush 14, 2) := by decide +kernel
theorem dX5_removeLocomotive_66 : decode cX5_removeLocomotive 66 = .ok (.dup2, 1) := by decide +kernel
theorem dX5_removeLocomotive_67 : decode cX5_removeLocomotive 67 = .ok (.iaload, 1) := by decide +kernel
theorem dX5_removeLocomotive_68 : decode cX5_removeLocomotive 68 = .ok (.iconst 1, 1) := by decide +kernel
theorem dX5_removeLocomotive_69 : decode cX5_removeLocomotive 69 = .ok (.isub, 1) := by decide +kernel
theorem dX5_removeLocomotive_70 : decode cX5_removeLocomotive 70 = .ok (.iastore, 1) := by decide +kernel
theorem dX5_removeLocomotive_71 : decode cX5_removeLocomotive 71 = .ok (.aload_n 0, 1) := by decide +kernel
theorem dX5_removeLocomotive_72 : decode cX5_removeLocomotive 72 = .ok (.invokevirtual 100, 3) := by decide +kernel
theorem dX5_removeLocomotive_75 : decode cX5_removeLocomotive 75 = .ok (.aload_n 0, 1) := by decide +kernel
theorem dX5_removeLocomotive_76 : decode cX5_removeLocomotive 76 = .ok (.getfield 7, 3) := by decide +kernel
theorem dX5_removeLocomotive_79 : decode cX5_removeLocomotive 79 = .ok (.bipush 14, 2) := by decide +kernel
theorem dX5_removeLocomotive_81 : decode cX5_removeLocomotive 81 = .ok (.iaload, 1) := by decide +kernel
theorem dX5_removeLocomotive_82 : decode cX5_removeLocomotive 82 = .ok (.ireturn, 1) := by decide +kernel
theorem dX5_setDead_0 : decode cX5_setDead 0 = .ok (.aload_n 0, 1) := by decide +kernel
theorem dX5_setDead_1 : decode cX5_setDead 1 = .ok (.iload_n 1, 1) := by decide +kernel
theorem dX5_setDead_2 : decode cX5_setDead 2 = .ok (.invokevirtual 116, 3) := by decide +kernel
theorem dX5_setDead_5 : decode cX5_setDead 5 = .ok (.ifCond .ne 6, 3) := by decide +kernel
theorem dX5_setDead_8 : decode cX5_setDead 8 = .ok (.bipush (-3), 2) := by decide +kernel
theorem dX5_setDead_10 : decode cX5_setDead 10 = .ok (.ireturn, 1) := by decide +kernel
theorem dX5_setDead_11 : decode cX5_setDead 11 = .ok (.aload_n 0, 1) := by decide +kernel
theorem dX5_setDead_12 : decode cX5_setDead 12 = .ok (.getfield 7, 3) := by decide +kernel
theorem dX5_setDead_15 : decode cX5_setDead 15 = .ok (.bipush 23, 2) := by decide +kernel
theorem dX5_setDead_17 : decode cX5_setDead 17 = .ok (.iload_n 1, 1) := by decide +kernel
theorem dX5_setDead_18 : decode cX5_setDead 18 = .ok (.iadd, 1) := by decide +kernel
theorem dX5_setDead_19 : decode cX5_setDead 19 = .ok (.iaload, 1) := by decide +kernel
theorem dX5_setDead_20 : decode cX5_setDead 20 = .ok (.istore_n 3, 1) := by decide +kernel
theorem dX5_setDead_21 : decode cX5_setDead 21 = .ok (.aload_n 0, 1) := by decide +kernel
theorem dX5_setDead_22 : decode cX5_setDead 22 = .ok (.getfield 7, 3) := by decide +kernel
theorem dX5_setDead_25 : decode cX5_setDead 25 = .ok (.bipush 23, 2) := by decide +kernel
theorem dX5_setDead_27 : decode cX5_setDead 27 = .ok (.iload_n 1, 1) := by decide +kernel
theorem dX5_setDead_28 : decode cX5_setDead 28 = .ok (.iadd, 1) := by decide +kernel
theorem dX5_setDead_29 : decode cX5_setDead 29 = .ok (.iload_n 2, 1) := by decide +kernel
theorem dX5_setDead_30 : decode cX5_setDead 30 = .ok (.ifCond .eq 7, 3) := by decide +kernel
theorem dX5_setDead_33 : decode cX5_setDead 33 = .ok (.iconst 1, 1) := by decide +kernel
theorem dX5_setDead_34 : decode cX5_setDead 34 = .ok (.goto 4, 3) := by decide +kernel
theorem dX5_setDead_37 : decode cX5_setDead 37 = .ok (.iconst 0, 1) := by decide +kernel
theorem dX5_setDead_38 : decode cX5_setDead 38 = .ok (.iastore, 1) := by decide +kernel
theorem dX5_setDead_39 : decode cX5_setDead 39 = .ok (.aload_n 0, 1) := by decide +kernel
theorem dX5_setDead_40 : decode cX5_setDead 40 = .ok (.invokevirtual 100, 3) := by decide +kernel
theorem dX5_setDead_43 : decode cX5_setDead 43 = .ok (.iload_n 3, 1) := by decide +kernel
theorem dX5_setDead_44 : decode cX5_setDead 44 = .ok (.ireturn, 1) := by decide +kernel
theorem dX5_locomotives_0 : decode cX5_locomotives 0 = .ok (.aload_n 0, 1) := by decide +kernel
theorem dX5_locomotives_1 : decode cX5_locomotives 1 = .ok (.getfield 7, 3) := by decide +kernel
theorem dX5_locomotives_4 : decode cX5_locomotives 4 = .ok (.bipush 14, 2) := by decide +kernel
theorem dX5_locomotives_6 : decode cX5_locomotives 6 = .ok (.iaload, 1) := by decide +kernel
theorem dX5_locomotives_7 : decode cX5_locomotives 7 = .ok (.ireturn, 1) := by decide +kernel
theorem dX5_trackLength_0 : decode cX5_trackLength 0 = .ok (.iload_n 1, 1) := by decide +kernel
theorem dX5_trackLength_1 : decode cX5_trackLength 1 = .ok (.invokestatic 92, 3) := by decide +kernel
theorem dX5_trackLength_4 : decode cX5_trackLength 4 = .ok (.ifCond .eq 14, 3) := by decide +kernel
theorem dX5_trackLength_7 : decode cX5_trackLength 7 = .ok (.aload_n 0, 1) := by decide +kernel
theorem dX5_trackLength_8 : decode cX5_trackLength 8 = .ok (.getfield 7, 3) := by decide +kernel
theorem dX5_trackLength_11 : decode cX5_trackLength 11 = .ok (.iconst 0, 1) := by decide +kernel
theorem dX5_trackLength_12 : decode cX5_trackLength 12 = .ok (.iload_n 1, 1) := by decide +kernel
theorem dX5_trackLength_13 : decode cX5_trackLength 13 = .ok (.iadd, 1) := by decide +kernel
theorem dX5_trackLength_14 : decode cX5_trackLength 14 = .ok (.iaload, 1) := by decide +kernel
theorem dX5_trackLength_15 : decode cX5_trackLength 15 = .ok (.goto 4, 3) := by decide +kernel
theorem dX5_trackLength_18 : decode cX5_trackLength 18 = .ok (.iconst (-1), 1) := by decide +kernel
theorem dX5_trackLength_19 : decode cX5_trackLength 19 = .ok (.ireturn, 1) := by decide +kernel
theorem dX5_freeLength_0 : decode cX5_freeLength 0 = .ok (.iload_n 1, 1) := by decide +kernel
theorem dX5_freeLength_1 : decode cX5_freeLength 1 = .ok (.iconst 0, 1) := by decide +kernel
theorem dX5_freeLength_2 : decode cX5_freeLength 2 = .ok (.bipush 12, 2) := by decide +kernel
theorem dX5_freeLength_4 : decode cX5_freeLength 4 = .ok (.invokestatic 84, 3) := by decide +kernel
theorem dX5_freeLength_7 : decode cX5_freeLength 7 = .ok (.ifCond .ne 5, 3) := by decide +kernel
theorem dX5_freeLength_10 : decode cX5_freeLength 10 = .ok (.iconst (-1), 1) := by decide +kernel
theorem dX5_freeLength_11 : decode cX5_freeLength 11 = .ok (.ireturn, 1) := by decide +kernel
theorem dX5_freeLength_12 : decode cX5_freeLength 12 = .ok (.aload_n 0, 1) := by decide +kernel
theorem dX5_freeLength_13 : decode cX5_freeLength 13 = .ok (.iload_n 1, 1) := by decide +kernel
theorem dX5_freeLength_14 : decode cX5_freeLength 14 = .ok (.invokevirtual 103, 3) := by decide +kernel
theorem dX5_freeLength_17 : decode cX5_freeLength 17 = .ok (.ifCond .eq 20, 3) := by decide +kernel
theorem dX5_freeLength_20 : decode cX5_freeLength 20 = .ok (.aload_n 0, 1) := by decide +kernel
theorem dX5_freeLength_21 : decode cX5_freeLength 21 = .ok (.getfield 7, 3) := by decide +kernel
theorem dX5_freeLength_24 : decode cX5_freeLength 24 = .ok (.iconst 0, 1) := by decide +kernel
theorem dX5_freeLength_25 : decode cX5_freeLength 25 = .ok (.iload_n 1, 1) := by decide +kernel
theorem dX5_freeLength_26 : decode cX5_freeLength 26 = .ok (.iadd, 1) := by decide +kernel
theorem dX5_freeLength_27 : decode cX5_freeLength 27 = .ok (.iaload, 1) := by decide +kernel
theorem dX5_freeLength_28 : decode cX5_freeLength 28 = .ok (.aload_n 0, 1) := by decide +kernel
theorem dX5_freeLength_29 : decode cX5_freeLength 29 = .ok (.iload_n 1, 1) := by decide +kernel
theorem dX5_freeLength_30 : decode cX5_freeLength 30 = .ok (.invokevirtual 96, 3) := by decide +kernel
theorem dX5_freeLength_33 : decode cX5_freeLength 33 = .ok (.isub, 1) := by decide +kernel
theorem dX5_freeLength_34 : decode cX5_freeLength 34 = .ok (.goto 5, 3) := by decide +kernel
theorem dX5_freeLength_37 : decode cX5_freeLength 37 = .ok (.bipush (-2), 2) := by decide +kernel
theorem dX5_freeLength_39 : decode cX5_freeLength 39 = .ok (.ireturn, 1) := by decide +kernel
theorem dX5_row_0 : decode cX5_row 0 = .ok (.iload_n 1, 1) := by decide +kernel
theorem dX5_row_1 : decode cX5_row 1 = .ok (.iconst 0, 1) := by decide +kernel
theorem dX5_row_2 : decode cX5_row 2 = .ok (.bipush 12, 2) := by decide +kernel
theorem dX5_row_4 : decode cX5_row 4 = .ok (.invokestatic 84, 3) := by decide +kernel
theorem dX5_row_7 : decode cX5_row 7 = .ok (.ifCond .ne 5, 3) := by decide +kernel
theorem dX5_row_10 : decode cX5_row 10 = .ok (.iconst (-1), 1) := by decide +kernel
theorem dX5_row_11 : decode cX5_row 11 = .ok (.ireturn, 1) := by decide +kernel
theorem dX5_row_12 : decode cX5_row 12 = .ok (.aload_n 0, 1) := by decide +kernel
theorem dX5_row_13 : decode cX5_row 13 = .ok (.iload_n 1, 1) := by decide +kernel
theorem dX5_row_14 : decode cX5_row 14 = .ok (.invokevirtual 103, 3) := by decide +kernel
theorem dX5_row_17 : decode cX5_row 17 = .ok (.ifCond .ne 6, 3) := by decide +kernel
theorem dX5_row_20 : decode cX5_row 20 = .ok (.bipush (-2), 2) := by decide +kernel
theorem dX5_row_22 : decode cX5_row 22 = .ok (.ireturn, 1) := by decide +kernel
theorem dX5_row_23 : decode cX5_row 23 = .ok (.aload_n 0, 1) := by decide +kernel
theorem dX5_row_24 : decode cX5_row 24 = .ok (.getfield 7, 3) := by decide +kernel
theorem dX5_row_27 : decode cX5_row 27 = .ok (.bipush 31, 2) := by decide +kernel
theorem dX5_row_29 : decode cX5_row 29 = .ok (.iload_n 1, 1) := by decide +kernel
theorem dX5_row_30 : decode cX5_row 30 = .ok (.iadd, 1) := by decide +kernel
theorem dX5_row_31 : decode cX5_row 31 = .ok (.iaload, 1) := by decide +kernel
theorem dX5_row_32 : decode cX5_row 32 = .ok (.istore_n 3, 1) := by decide +kernel
theorem dX5_row_33 : decode cX5_row 33 = .ok (.iload_n 2, 1) := by decide +kernel
theorem dX5_row_34 : decode cX5_row 34 = .ok (.iconst (-1), 1) := by decide +kernel
theorem dX5_row_35 : decode cX5_row 35 = .ok (.if_icmp .ne 7, 3) := by decide +kernel
theorem dX5_row_38 : decode cX5_row 38 = .ok (.iload_n 3, 1) := by decide +kernel
theorem dX5_row_39 : decode cX5_row 39 = .ok (.goto 30, 3) := by decide +kernel
theorem dX5_row_42 : decode cX5_row 42 = .ok (.iload_n 2, 1) := by decide +kernel
theorem dX5_row_43 : decode cX5_row 43 = .ok (.iconst 0, 1) := by decide +kernel
theorem dX5_row_44 : decode cX5_row 44 = .ok (.iload_n 3, 1) := by decide +kernel
theorem dX5_row_45 : decode cX5_row 45 = .ok (.iconst 1, 1) := by decide +kernel
theorem dX5_row_46 : decode cX5_row 46 = .ok (.isub, 1) := by decide +kernel
theorem dX5_row_47 : decode cX5_row 47 = .ok (.invokestatic 84, 3) := by decide +kernel
theorem dX5_row_50 : decode cX5_row 50 = .ok (.ifCond .eq 17, 3) := by decide +kernel
theorem dX5_row_53 : decode cX5_row 53 = .ok (.aload_n 0, 1) := by decide +kernel
theorem dX5_row_54 : decode cX5_row 54 = .ok (.getfield 7, 3) := by decide +kernel
theorem dX5_row_57 : decode cX5_row 57 = .ok (.aload_n 0, 1) := by decide +kernel
theorem dX5_row_58 : decode cX5_row 58 = .ok (.iload_n 1, 1) := by decide +kernel
theorem dX5_row_59 : decode cX5_row 59 = .ok (.iload_n 2, 1) := by decide +kernel
theorem dX5_row_60 : decode cX5_row 60 = .ok (.invokevirtual 88, 3) := by decide +kernel
theorem dX5_row_63 : decode cX5_row 63 = .ok (.iaload, 1) := by decide +kernel
theorem dX5_row_64 : decode cX5_row 64 = .ok (.goto 5, 3) := by decide +kernel
theorem dX5_row_67 : decode cX5_row 67 = .ok (.bipush (-11), 2) := by decide +kernel
theorem dX5_row_69 : decode cX5_row 69 = .ok (.ireturn, 1) := by decide +kernel
theorem dX5_place_0 : decode cX5_place 0 = .ok (.aload_n 0, 1) := by decide +kernel
theorem dX5_place_1 : decode cX5_place 1 = .ok (.iload_n 1, 1) := by decide +kernel
theorem dX5_place_2 : decode cX5_place 2 = .ok (.invokevirtual 116, 3) := by decide +kernel
theorem dX5_place_5 : decode cX5_place 5 = .ok (.ifCond .eq 11, 3) := by decide +kernel
theorem dX5_place_8 : decode cX5_place 8 = .ok (.aload_n 0, 1) := by decide +kernel
theorem dX5_place_9 : decode cX5_place 9 = .ok (.iload_n 1, 1) := by decide +kernel
theorem dX5_place_10 : decode cX5_place 10 = .ok (.invokevirtual 110, 3) := by decide +kernel
theorem dX5_place_13 : decode cX5_place 13 = .ok (.goto 5, 3) := by decide +kernel
theorem dX5_place_16 : decode cX5_place 16 = .ok (.bipush (-3), 2) := by decide +kernel
theorem dX5_place_18 : decode cX5_place 18 = .ok (.ireturn, 1) := by decide +kernel
theorem dX5_isEnd_0 : decode cX5_isEnd 0 = .ok (.iload_n 0, 1) := by decide +kernel
theorem dX5_isEnd_1 : decode cX5_isEnd 1 = .ok (.iconst 0, 1) := by decide +kernel
theorem dX5_isEnd_2 : decode cX5_isEnd 2 = .ok (.iconst 1, 1) := by decide +kernel
theorem dX5_isEnd_3 : decode cX5_isEnd 3 = .ok (.invokestatic 84, 3) := by decide +kernel
theorem dX5_isEnd_6 : decode cX5_isEnd 6 = .ok (.ireturn, 1) := by decide +kernel
