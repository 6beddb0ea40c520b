theorem dX1_forgetGoal_0 : decode cX1_forgetGoal 0 = .ok (.aload_n 0, 1) := by decide +kernel
theorem dX1_forgetGoal_1 : decode cX1_forgetGoal 1 = .ok (.bipush (-11), 2) := by decide +kernel
theorem dX1_forgetGoal_3 : decode cX1_forgetGoal 3 = .ok (.putfield 44, 3) := by decide +kernel
theorem dX1_forgetGoal_6 : decode cX1_forgetGoal 6 = .ok (.return_, 1) := by decide +kernel
theorem dX1_listPlaces_0 : decode cX1_listPlaces 0 = .ok (.aload_n 0, 1) := by decide +kernel
theorem dX1_listPlaces_1 : decode cX1_listPlaces 1 = .ok (.getfield 18, 3) := by decide +kernel
theorem dX1_listPlaces_4 : decode cX1_listPlaces 4 = .ok (.iconst 0, 1) := by decide +kernel
theorem dX1_listPlaces_5 : decode cX1_listPlaces 5 = .ok (.bipush 12, 2) := by decide +kernel
theorem dX1_listPlaces_7 : decode cX1_listPlaces 7 = .ok (.iastore, 1) := by decide +kernel
theorem dX1_listPlaces_8 : decode cX1_listPlaces 8 = .ok (.aload_n 0, 1) := by decide +kernel
theorem dX1_listPlaces_9 : decode cX1_listPlaces 9 = .ok (.iconst 1, 1) := by decide +kernel
theorem dX1_listPlaces_10 : decode cX1_listPlaces 10 = .ok (.putfield 109, 3) := by decide +kernel
theorem dX1_listPlaces_13 : decode cX1_listPlaces 13 = .ok (.iconst 0, 1) := by decide +kernel
theorem dX1_listPlaces_14 : decode cX1_listPlaces 14 = .ok (.istore_n 1, 1) := by decide +kernel
theorem dX1_listPlaces_15 : decode cX1_listPlaces 15 = .ok (.iload_n 1, 1) := by decide +kernel
theorem dX1_listPlaces_16 : decode cX1_listPlaces 16 = .ok (.bipush 12, 2) := by decide +kernel
theorem dX1_listPlaces_18 : decode cX1_listPlaces 18 = .ok (.if_icmp .ge 49, 3) := by decide +kernel
theorem dX1_listPlaces_21 : decode cX1_listPlaces 21 = .ok (.aload_n 0, 1) := by decide +kernel
theorem dX1_listPlaces_22 : decode cX1_listPlaces 22 = .ok (.getfield 12, 3) := by decide +kernel
theorem dX1_listPlaces_25 : decode cX1_listPlaces 25 = .ok (.iload_n 1, 1) := by decide +kernel
theorem dX1_listPlaces_26 : decode cX1_listPlaces 26 = .ok (.invokevirtual 112, 3) := by decide +kernel
theorem dX1_listPlaces_29 : decode cX1_listPlaces 29 = .ok (.ifCond .le 32, 3) := by decide +kernel
theorem dX1_listPlaces_32 : decode cX1_listPlaces 32 = .ok (.aload_n 0, 1) := by decide +kernel
theorem dX1_listPlaces_33 : decode cX1_listPlaces 33 = .ok (.getfield 109, 3) := by decide +kernel
theorem dX1_listPlaces_36 : decode cX1_listPlaces 36 = .ok (.bipush 6, 2) := by decide +kernel
theorem dX1_listPlaces_38 : decode cX1_listPlaces 38 = .ok (.if_icmp .ge 23, 3) := by decide +kernel
theorem dX1_listPlaces_41 : decode cX1_listPlaces 41 = .ok (.aload_n 0, 1) := by decide +kernel
theorem dX1_listPlaces_42 : decode cX1_listPlaces 42 = .ok (.getfield 18, 3) := by decide +kernel
theorem dX1_listPlaces_45 : decode cX1_listPlaces 45 = .ok (.aload_n 0, 1) := by decide +kernel
theorem dX1_listPlaces_46 : decode cX1_listPlaces 46 = .ok (.getfield 109, 3) := by decide +kernel
theorem dX1_listPlaces_49 : decode cX1_listPlaces 49 = .ok (.iload_n 1, 1) := by decide +kernel
theorem dX1_listPlaces_50 : decode cX1_listPlaces 50 = .ok (.iastore, 1) := by decide +kernel
theorem dX1_listPlaces_51 : decode cX1_listPlaces 51 = .ok (.aload_n 0, 1) := by decide +kernel
theorem dX1_listPlaces_52 : decode cX1_listPlaces 52 = .ok (.dup, 1) := by decide +kernel
theorem dX1_listPlaces_53 : decode cX1_listPlaces 53 = .ok (.getfield 109, 3) := by decide +kernel
theorem dX1_listPlaces_56 : decode cX1_listPlaces 56 = .ok (.iconst 1, 1) := by decide +kernel
theorem dX1_listPlaces_57 : decode cX1_listPlaces 57 = .ok (.iadd, 1) := by decide +kernel
theorem dX1_listPlaces_58 : decode cX1_listPlaces 58 = .ok (.putfield 109, 3) := by decide +kernel
theorem dX1_listPlaces_61 : decode cX1_listPlaces 61 = .ok (.iinc 1 1, 3) := by decide +kernel
theorem dX1_listPlaces_64 : decode cX1_listPlaces 64 = .ok (.goto (-49), 3) := by decide +kernel
theorem dX1_listPlaces_67 : decode cX1_listPlaces 67 = .ok (.return_, 1) := by decide +kernel
theorem dX1_waysToPut_0 : decode cX1_waysToPut 0 = .ok (.iconst 1, 1) := by decide +kernel
theorem dX1_waysToPut_1 : decode cX1_waysToPut 1 = .ok (.aload_n 0, 1) := by decide +kernel
theorem dX1_waysToPut_2 : decode cX1_waysToPut 2 = .ok (.getfield 109, 3) := by decide +kernel
theorem dX1_waysToPut_5 : decode cX1_waysToPut 5 = .ok (.iload_n 1, 1) := by decide +kernel
theorem dX1_waysToPut_6 : decode cX1_waysToPut 6 = .ok (.iadd, 1) := by decide +kernel
theorem dX1_waysToPut_7 : decode cX1_waysToPut 7 = .ok (.invokestatic 115, 3) := by decide +kernel
theorem dX1_waysToPut_10 : decode cX1_waysToPut 10 = .ok (.ireturn, 1) := by decide +kernel
theorem dX1_putIntoLine_0 : decode cX1_putIntoLine 0 = .ok (.iconst 0, 1) := by decide +kernel
theorem dX1_putIntoLine_1 : decode cX1_putIntoLine 1 = .ok (.istore_n 3, 1) := by decide +kernel
theorem dX1_putIntoLine_2 : decode cX1_putIntoLine 2 = .ok (.iconst 0, 1) := by decide +kernel
theorem dX1_putIntoLine_3 : decode cX1_putIntoLine 3 = .ok (.istore 4, 2) := by decide +kernel
theorem dX1_putIntoLine_5 : decode cX1_putIntoLine 5 = .ok (.iload 4, 2) := by decide +kernel
theorem dX1_putIntoLine_7 : decode cX1_putIntoLine 7 = .ok (.aload_n 0, 1) := by decide +kernel
theorem dX1_putIntoLine_8 : decode cX1_putIntoLine 8 = .ok (.getfield 109, 3) := by decide +kernel
theorem dX1_putIntoLine_11 : decode cX1_putIntoLine 11 = .ok (.if_icmp .ge 66, 3) := by decide +kernel
theorem dX1_putIntoLine_14 : decode cX1_putIntoLine 14 = .ok (.iload 4, 2) := by decide +kernel
theorem dX1_putIntoLine_16 : decode cX1_putIntoLine 16 = .ok (.bipush 6, 2) := by decide +kernel
theorem dX1_putIntoLine_18 : decode cX1_putIntoLine 18 = .ok (.if_icmp .ge 59, 3) := by decide +kernel
theorem dX1_putIntoLine_21 : decode cX1_putIntoLine 21 = .ok (.aload_n 0, 1) := by decide +kernel
theorem dX1_putIntoLine_22 : decode cX1_putIntoLine 22 = .ok (.getfield 12, 3) := by decide +kernel
theorem dX1_putIntoLine_25 : decode cX1_putIntoLine 25 = .ok (.aload_n 0, 1) := by decide +kernel
theorem dX1_putIntoLine_26 : decode cX1_putIntoLine 26 = .ok (.getfield 18, 3) := by decide +kernel
theorem dX1_putIntoLine_29 : decode cX1_putIntoLine 29 = .ok (.iload 4, 2) := by decide +kernel
theorem dX1_putIntoLine_31 : decode cX1_putIntoLine 31 = .ok (.iaload, 1) := by decide +kernel
theorem dX1_putIntoLine_32 : decode cX1_putIntoLine 32 = .ok (.invokevirtual 142, 3) := by decide +kernel
theorem dX1_putIntoLine_35 : decode cX1_putIntoLine 35 = .ok (.istore 5, 2) := by decide +kernel
theorem dX1_putIntoLine_37 : decode cX1_putIntoLine 37 = .ok (.iload_n 2, 1) := by decide +kernel
theorem dX1_putIntoLine_38 : decode cX1_putIntoLine 38 = .ok (.iload_n 3, 1) := by decide +kernel
theorem dX1_putIntoLine_39 : decode cX1_putIntoLine 39 = .ok (.iload 5, 2) := by decide +kernel
theorem dX1_putIntoLine_41 : decode cX1_putIntoLine 41 = .ok (.iadd, 1) := by decide +kernel
theorem dX1_putIntoLine_42 : decode cX1_putIntoLine 42 = .ok (.if_icmp .gt 22, 3) := by decide +kernel
theorem dX1_putIntoLine_45 : decode cX1_putIntoLine 45 = .ok (.aload_n 0, 1) := by decide +kernel
theorem dX1_putIntoLine_46 : decode cX1_putIntoLine 46 = .ok (.getfield 12, 3) := by decide +kernel
theorem dX1_putIntoLine_49 : decode cX1_putIntoLine 49 = .ok (.aload_n 0, 1) := by decide +kernel
theorem dX1_putIntoLine_50 : decode cX1_putIntoLine 50 = .ok (.getfield 18, 3) := by decide +kernel
theorem dX1_putIntoLine_53 : decode cX1_putIntoLine 53 = .ok (.iload 4, 2) := by decide +kernel
theorem dX1_putIntoLine_55 : decode cX1_putIntoLine 55 = .ok (.iaload, 1) := by decide +kernel
theorem dX1_putIntoLine_56 : decode cX1_putIntoLine 56 = .ok (.iload_n 2, 1) := by decide +kernel
theorem dX1_putIntoLine_57 : decode cX1_putIntoLine 57 = .ok (.iload_n 3, 1) := by decide +kernel
theorem dX1_putIntoLine_58 : decode cX1_putIntoLine 58 = .ok (.isub, 1) := by decide +kernel
theorem dX1_putIntoLine_59 : decode cX1_putIntoLine 59 = .ok (.iload_n 1, 1) := by decide +kernel
theorem dX1_putIntoLine_60 : decode cX1_putIntoLine 60 = .ok (.invokevirtual 145, 3) := by decide +kernel
theorem dX1_putIntoLine_63 : decode cX1_putIntoLine 63 = .ok (.return_, 1) := by decide +kernel
theorem dX1_putIntoLine_64 : decode cX1_putIntoLine 64 = .ok (.iload_n 3, 1) := by decide +kernel
theorem dX1_putIntoLine_65 : decode cX1_putIntoLine 65 = .ok (.iload 5, 2) := by decide +kernel
theorem dX1_putIntoLine_67 : decode cX1_putIntoLine 67 = .ok (.iconst 1, 1) := by decide +kernel
theorem dX1_putIntoLine_68 : decode cX1_putIntoLine 68 = .ok (.iadd, 1) := by decide +kernel
theorem dX1_putIntoLine_69 : decode cX1_putIntoLine 69 = .ok (.iadd, 1) := by decide +kernel
theorem dX1_putIntoLine_70 : decode cX1_putIntoLine 70 = .ok (.istore_n 3, 1) := by decide +kernel
theorem dX1_putIntoLine_71 : decode cX1_putIntoLine 71 = .ok (.iinc 4 1, 3) := by decide +kernel
theorem dX1_putIntoLine_74 : decode cX1_putIntoLine 74 = .ok (.goto (-69), 3) := by decide +kernel
theorem dX1_putIntoLine_77 : decode cX1_putIntoLine 77 = .ok (.return_, 1) := by decide +kernel
theorem dX1_showRows_0 : decode cX1_showRows 0 = .ok (.aload_n 0, 1) := by decide +kernel
theorem dX1_showRows_1 : decode cX1_showRows 1 = .ok (.getfield 12, 3) := by decide +kernel
theorem dX1_showRows_4 : decode cX1_showRows 4 = .ok (.invokevirtual 135, 3) := by decide +kernel
theorem dX1_showRows_7 : decode cX1_showRows 7 = .ok (.iload_n 1, 1) := by decide +kernel
theorem dX1_showRows_8 : decode cX1_showRows 8 = .ok (.bipush 12, 2) := by decide +kernel
theorem dX1_showRows_10 : decode cX1_showRows 10 = .ok (.idiv, 1) := by decide +kernel
theorem dX1_showRows_11 : decode cX1_showRows 11 = .ok (.istore_n 2, 1) := by decide +kernel
theorem dX1_showRows_12 : decode cX1_showRows 12 = .ok (.iconst 0, 1) := by decide +kernel
theorem dX1_showRows_13 : decode cX1_showRows 13 = .ok (.istore_n 3, 1) := by decide +kernel
theorem dX1_showRows_14 : decode cX1_showRows 14 = .ok (.iload_n 3, 1) := by decide +kernel
theorem dX1_showRows_15 : decode cX1_showRows 15 = .ok (.aload_n 0, 1) := by decide +kernel
theorem dX1_showRows_16 : decode cX1_showRows 16 = .ok (.getfield 12, 3) := by decide +kernel
theorem dX1_showRows_19 : decode cX1_showRows 19 = .ok (.getfield 61, 3) := by decide +kernel
theorem dX1_showRows_22 : decode cX1_showRows 22 = .ok (.if_icmp .ge 35, 3) := by decide +kernel
theorem dX1_showRows_25 : decode cX1_showRows 25 = .ok (.iload_n 3, 1) := by decide +kernel
theorem dX1_showRows_26 : decode cX1_showRows 26 = .ok (.iconst 3, 1) := by decide +kernel
theorem dX1_showRows_27 : decode cX1_showRows 27 = .ok (.if_icmp .ge 30, 3) := by decide +kernel
theorem dX1_showRows_30 : decode cX1_showRows 30 = .ok (.aload_n 0, 1) := by decide +kernel
theorem dX1_showRows_31 : decode cX1_showRows 31 = .ok (.iload_n 3, 1) := by decide +kernel
theorem dX1_showRows_32 : decode cX1_showRows 32 = .ok (.invokevirtual 64, 3) := by decide +kernel
theorem dX1_showRows_35 : decode cX1_showRows 35 = .ok (.istore 4, 2) := by decide +kernel
theorem dX1_showRows_37 : decode cX1_showRows 37 = .ok (.aload_n 0, 1) := by decide +kernel
theorem dX1_showRows_38 : decode cX1_showRows 38 = .ok (.iload_n 3, 1) := by decide +kernel
theorem dX1_showRows_39 : decode cX1_showRows 39 = .ok (.iload_n 2, 1) := by decide +kernel
theorem dX1_showRows_40 : decode cX1_showRows 40 = .ok (.iload 4, 2) := by decide +kernel
theorem dX1_showRows_42 : decode cX1_showRows 42 = .ok (.irem, 1) := by decide +kernel
theorem dX1_showRows_43 : decode cX1_showRows 43 = .ok (.invokevirtual 138, 3) := by decide +kernel
theorem dX1_showRows_46 : decode cX1_showRows 46 = .ok (.iload_n 2, 1) := by decide +kernel
theorem dX1_showRows_47 : decode cX1_showRows 47 = .ok (.iload 4, 2) := by decide +kernel
theorem dX1_showRows_49 : decode cX1_showRows 49 = .ok (.idiv, 1) := by decide +kernel
theorem dX1_showRows_50 : decode cX1_showRows 50 = .ok (.istore_n 2, 1) := by decide +kernel
theorem dX1_showRows_51 : decode cX1_showRows 51 = .ok (.iinc 3 1, 3) := by decide +kernel
theorem dX1_showRows_54 : decode cX1_showRows 54 = .ok (.goto (-40), 3) := by decide +kernel
theorem dX1_showRows_57 : decode cX1_showRows 57 = .ok (.return_, 1) := by decide +kernel
theorem dX1_improve_0 : decode cX1_improve 0 = .ok (.iload_n 1, 1) := by decide +kernel
theorem dX1_improve_1 : decode cX1_improve 1 = .ok (.ifCond .lt 40, 3) := by decide +kernel
theorem dX1_improve_4 : decode cX1_improve 4 = .ok (.iload_n 1, 1) := by decide +kernel
theorem dX1_improve_5 : decode cX1_improve 5 = .ok (.aload_n 0, 1) := by decide +kernel
theorem dX1_improve_6 : decode cX1_improve 6 = .ok (.getfield 58, 3) := by decide +kernel
theorem dX1_improve_9 : decode cX1_improve 9 = .ok (.if_icmp .ge 32, 3) := by decide +kernel
theorem dX1_improve_12 : decode cX1_improve 12 = .ok (.iload_n 1, 1) := by decide +kernel
theorem dX1_improve_13 : decode cX1_improve 13 = .ok (.sipush 4032, 3) := by decide +kernel
theorem dX1_improve_16 : decode cX1_improve 16 = .ok (.if_icmp .ge 25, 3) := by decide +kernel
theorem dX1_improve_19 : decode cX1_improve 19 = .ok (.iload_n 2, 1) := by decide +kernel
theorem dX1_improve_20 : decode cX1_improve 20 = .ok (.aload_n 0, 1) := by decide +kernel
theorem dX1_improve_21 : decode cX1_improve 21 = .ok (.getfield 31, 3) := by decide +kernel
theorem dX1_improve_24 : decode cX1_improve 24 = .ok (.iload_n 1, 1) := by decide +kernel
theorem dX1_improve_25 : decode cX1_improve 25 = .ok (.iaload, 1) := by decide +kernel
theorem dX1_improve_26 : decode cX1_improve 26 = .ok (.if_icmp .ge 15, 3) := by decide +kernel
theorem dX1_improve_29 : decode cX1_improve 29 = .ok (.aload_n 0, 1) := by decide +kernel
theorem dX1_improve_30 : decode cX1_improve 30 = .ok (.getfield 31, 3) := by decide +kernel
theorem dX1_improve_33 : decode cX1_improve 33 = .ok (.iload_n 1, 1) := by decide +kernel
theorem dX1_improve_34 : decode cX1_improve 34 = .ok (.iload_n 2, 1) := by decide +kernel
theorem dX1_improve_35 : decode cX1_improve 35 = .ok (.iastore, 1) := by decide +kernel
theorem dX1_improve_36 : decode cX1_improve 36 = .ok (.aload_n 3, 1) := by decide +kernel
theorem dX1_improve_37 : decode cX1_improve 37 = .ok (.iload_n 1, 1) := by decide +kernel
theorem dX1_improve_38 : decode cX1_improve 38 = .ok (.invokevirtual 190, 3) := by decide +kernel
theorem dX1_improve_41 : decode cX1_improve 41 = .ok (.return_, 1) := by decide +kernel
theorem dX1_addGoals_0 : decode cX1_addGoals 0 = .ok (.iconst 0, 1) := by decide +kernel
theorem dX1_addGoals_1 : decode cX1_addGoals 1 = .ok (.istore_n 1, 1) := by decide +kernel
theorem dX1_addGoals_2 : decode cX1_addGoals 2 = .ok (.iload_n 1, 1) := by decide +kernel
theorem dX1_addGoals_3 : decode cX1_addGoals 3 = .ok (.aload_n 0, 1) := by decide +kernel
theorem dX1_addGoals_4 : decode cX1_addGoals 4 = .ok (.getfield 58, 3) := by decide +kernel
theorem dX1_addGoals_7 : decode cX1_addGoals 7 = .ok (.if_icmp .ge 69, 3) := by decide +kernel
theorem dX1_addGoals_10 : decode cX1_addGoals 10 = .ok (.aload_n 0, 1) := by decide +kernel
theorem dX1_addGoals_11 : decode cX1_addGoals 11 = .ok (.iload_n 1, 1) := by decide +kernel
theorem dX1_addGoals_12 : decode cX1_addGoals 12 = .ok (.invokevirtual 121, 3) := by decide +kernel
theorem dX1_addGoals_15 : decode cX1_addGoals 15 = .ok (.aload_n 0, 1) := by decide +kernel
theorem dX1_addGoals_16 : decode cX1_addGoals 16 = .ok (.getfield 12, 3) := by decide +kernel
theorem dX1_addGoals_19 : decode cX1_addGoals 19 = .ok (.aload_n 0, 1) := by decide +kernel
theorem dX1_addGoals_20 : decode cX1_addGoals 20 = .ok (.getfield 48, 3) := by decide +kernel
theorem dX1_addGoals_23 : decode cX1_addGoals 23 = .ok (.iconst 0, 1) := by decide +kernel
theorem dX1_addGoals_24 : decode cX1_addGoals 24 = .ok (.invokevirtual 124, 3) := by decide +kernel
theorem dX1_addGoals_27 : decode cX1_addGoals 27 = .ok (.aload_n 0, 1) := by decide +kernel
theorem dX1_addGoals_28 : decode cX1_addGoals 28 = .ok (.getfield 44, 3) := by decide +kernel
theorem dX1_addGoals_31 : decode cX1_addGoals 31 = .ok (.if_icmp .ne 39, 3) := by decide +kernel
theorem dX1_addGoals_34 : decode cX1_addGoals 34 = .ok (.aload_n 0, 1) := by decide +kernel
theorem dX1_addGoals_35 : decode cX1_addGoals 35 = .ok (.getfield 12, 3) := by decide +kernel
theorem dX1_addGoals_38 : decode cX1_addGoals 38 = .ok (.invokevirtual 127, 3) := by decide +kernel
theorem dX1_addGoals_41 : decode cX1_addGoals 41 = .ok (.ifCond .eq 29, 3) := by decide +kernel
theorem dX1_addGoals_44 : decode cX1_addGoals 44 = .ok (.iconst 0, 1) := by decide +kernel
theorem dX1_addGoals_45 : decode cX1_addGoals 45 = .ok (.istore_n 2, 1) := by decide +kernel
theorem dX1_addGoals_46 : decode cX1_addGoals 46 = .ok (.iload_n 2, 1) := by decide +kernel
theorem dX1_addGoals_47 : decode cX1_addGoals 47 = .ok (.bipush 12, 2) := by decide +kernel
theorem dX1_addGoals_49 : decode cX1_addGoals 49 = .ok (.if_icmp .ge 21, 3) := by decide +kernel
theorem dX1_addGoals_52 : decode cX1_addGoals 52 = .ok (.aload_n 0, 1) := by decide +kernel
theorem dX1_addGoals_53 : decode cX1_addGoals 53 = .ok (.iload_n 1, 1) := by decide +kernel
theorem dX1_addGoals_54 : decode cX1_addGoals 54 = .ok (.iload_n 2, 1) := by decide +kernel
theorem dX1_addGoals_55 : decode cX1_addGoals 55 = .ok (.iadd, 1) := by decide +kernel
theorem dX1_addGoals_56 : decode cX1_addGoals 56 = .ok (.iconst 0, 1) := by decide +kernel
theorem dX1_addGoals_57 : decode cX1_addGoals 57 = .ok (.aload_n 0, 1) := by decide +kernel
theorem dX1_addGoals_58 : decode cX1_addGoals 58 = .ok (.getfield 41, 3) := by decide +kernel
theorem dX1_addGoals_61 : decode cX1_addGoals 61 = .ok (.invokevirtual 131, 3) := by decide +kernel
theorem dX1_addGoals_64 : decode cX1_addGoals 64 = .ok (.iinc 2 1, 3) := by decide +kernel
theorem dX1_addGoals_67 : decode cX1_addGoals 67 = .ok (.goto (-21), 3) := by decide +kernel
theorem dX1_addGoals_70 : decode cX1_addGoals 70 = .ok (.iinc 1 12, 3) := by decide +kernel
theorem dX1_addGoals_73 : decode cX1_addGoals 73 = .ok (.goto (-71), 3) := by decide +kernel
theorem dX1_addGoals_76 : decode cX1_addGoals 76 = .ok (.return_, 1) := by decide +kernel
theorem dX1_aimAt_0 : decode cX1_aimAt 0 = .ok (.iload_n 2, 1) := by decide +kernel
theorem dX1_aimAt_1 : decode cX1_aimAt 1 = .ok (.aload_n 0, 1) := by decide +kernel
theorem dX1_aimAt_2 : decode cX1_aimAt 2 = .ok (.getfield 44, 3) := by decide +kernel
theorem dX1_aimAt_5 : decode cX1_aimAt 5 = .ok (.if_icmp .ne 12, 3) := by decide +kernel
theorem dX1_aimAt_8 : decode cX1_aimAt 8 = .ok (.iload_n 3, 1) := by decide +kernel
theorem dX1_aimAt_9 : decode cX1_aimAt 9 = .ok (.aload_n 0, 1) := by decide +kernel
theorem dX1_aimAt_10 : decode cX1_aimAt 10 = .ok (.getfield 48, 3) := by decide +kernel
theorem dX1_aimAt_13 : decode cX1_aimAt 13 = .ok (.if_icmp .ne 4, 3) := by decide +kernel
theorem dX1_aimAt_16 : decode cX1_aimAt 16 = .ok (.return_, 1) := by decide +kernel
theorem dX1_aimAt_17 : decode cX1_aimAt 17 = .ok (.aload_n 0, 1) := by decide +kernel
theorem dX1_aimAt_18 : decode cX1_aimAt 18 = .ok (.iload_n 2, 1) := by decide +kernel
theorem dX1_aimAt_19 : decode cX1_aimAt 19 = .ok (.putfield 44, 3) := by decide +kernel
theorem dX1_aimAt_22 : decode cX1_aimAt 22 = .ok (.aload_n 0, 1) := by decide +kernel
theorem dX1_aimAt_23 : decode cX1_aimAt 23 = .ok (.iload_n 3, 1) := by decide +kernel
theorem dX1_aimAt_24 : decode cX1_aimAt 24 = .ok (.putfield 48, 3) := by decide +kernel
theorem dX1_aimAt_27 : decode cX1_aimAt 27 = .ok (.aload_n 0, 1) := by decide +kernel
theorem dX1_aimAt_28 : decode cX1_aimAt 28 = .ok (.getfield 12, 3) := by decide +kernel
theorem dX1_aimAt_31 : decode cX1_aimAt 31 = .ok (.aload_n 1, 1) := by decide +kernel
theorem dX1_aimAt_32 : decode cX1_aimAt 32 = .ok (.invokevirtual 51, 3) := by decide +kernel
theorem dX1_aimAt_35 : decode cX1_aimAt 35 = .ok (.aload_n 0, 1) := by decide +kernel
theorem dX1_aimAt_36 : decode cX1_aimAt 36 = .ok (.invokevirtual 55, 3) := by decide +kernel
theorem dX1_aimAt_39 : decode cX1_aimAt 39 = .ok (.aload_n 0, 1) := by decide +kernel
theorem dX1_aimAt_40 : decode cX1_aimAt 40 = .ok (.bipush 12, 2) := by decide +kernel
theorem dX1_aimAt_42 : decode cX1_aimAt 42 = .ok (.putfield 58, 3) := by decide +kernel
theorem dX1_aimAt_45 : decode cX1_aimAt 45 = .ok (.iconst 0, 1) := by decide +kernel
theorem dX1_aimAt_46 : decode cX1_aimAt 46 = .ok (.istore 4, 2) := by decide +kernel
theorem dX1_aimAt_48 : decode cX1_aimAt 48 = .ok (.iload 4, 2) := by decide +kernel
theorem dX1_aimAt_50 : decode cX1_aimAt 50 = .ok (.aload_n 0, 1) := by decide +kernel
theorem dX1_aimAt_51 : decode cX1_aimAt 51 = .ok (.getfield 12, 3) := by decide +kernel
theorem dX1_aimAt_54 : decode cX1_aimAt 54 = .ok (.getfield 61, 3) := by decide +kernel
theorem dX1_aimAt_57 : decode cX1_aimAt 57 = .ok (.if_icmp .ge 30, 3) := by decide +kernel
theorem dX1_aimAt_60 : decode cX1_aimAt 60 = .ok (.iload 4, 2) := by decide +kernel
theorem dX1_aimAt_62 : decode cX1_aimAt 62 = .ok (.iconst 3, 1) := by decide +kernel
theorem dX1_aimAt_63 : decode cX1_aimAt 63 = .ok (.if_icmp .ge 24, 3) := by decide +kernel
theorem dX1_aimAt_66 : decode cX1_aimAt 66 = .ok (.aload_n 0, 1) := by decide +kernel
theorem dX1_aimAt_67 : decode cX1_aimAt 67 = .ok (.dup, 1) := by decide +kernel
theorem dX1_aimAt_68 : decode cX1_aimAt 68 = .ok (.getfield 58, 3) := by decide +kernel
theorem dX1_aimAt_71 : decode cX1_aimAt 71 = .ok (.aload_n 0, 1) := by decide +kernel
theorem dX1_aimAt_72 : decode cX1_aimAt 72 = .ok (.iload 4, 2) := by decide +kernel
theorem dX1_aimAt_74 : decode cX1_aimAt 74 = .ok (.invokevirtual 64, 3) := by decide +kernel
theorem dX1_aimAt_77 : decode cX1_aimAt 77 = .ok (.imul, 1) := by decide +kernel
theorem dX1_aimAt_78 : decode cX1_aimAt 78 = .ok (.putfield 58, 3) := by decide +kernel
theorem dX1_aimAt_81 : decode cX1_aimAt 81 = .ok (.iinc 4 1, 3) := by decide +kernel
theorem dX1_aimAt_84 : decode cX1_aimAt 84 = .ok (.goto (-36), 3) := by decide +kernel
theorem dX1_aimAt_87 : decode cX1_aimAt 87 = .ok (.aload_n 0, 1) := by decide +kernel
theorem dX1_aimAt_88 : decode cX1_aimAt 88 = .ok (.getfield 31, 3) := by decide +kernel
theorem dX1_aimAt_91 : decode cX1_aimAt 91 = .ok (.ldc 68, 2) := by decide +kernel
theorem dX1_aimAt_93 : decode cX1_aimAt 93 = .ok (.invokestatic 69, 3) := by decide +kernel
theorem dX1_aimAt_96 : decode cX1_aimAt 96 = .ok (.aload_n 0, 1) := by decide +kernel
theorem dX1_aimAt_97 : decode cX1_aimAt 97 = .ok (.getfield 37, 3) := by decide +kernel
theorem dX1_aimAt_100 : decode cX1_aimAt 100 = .ok (.invokevirtual 75, 3) := by decide +kernel
theorem dX1_aimAt_103 : decode cX1_aimAt 103 = .ok (.aload_n 0, 1) := by decide +kernel
theorem dX1_aimAt_104 : decode cX1_aimAt 104 = .ok (.getfield 41, 3) := by decide +kernel
theorem dX1_aimAt_107 : decode cX1_aimAt 107 = .ok (.invokevirtual 75, 3) := by decide +kernel
theorem dX1_aimAt_110 : decode cX1_aimAt 110 = .ok (.aload_n 0, 1) := by decide +kernel
theorem dX1_aimAt_111 : decode cX1_aimAt 111 = .ok (.invokevirtual 78, 3) := by decide +kernel
theorem dX1_aimAt_114 : decode cX1_aimAt 114 = .ok (.return_, 1) := by decide +kernel
theorem dX1_stateOf_0 : decode cX1_stateOf 0 = .ok (.iconst 0, 1) := by decide +kernel
theorem dX1_stateOf_1 : decode cX1_stateOf 1 = .ok (.istore_n 2, 1) := by decide +kernel
theorem dX1_stateOf_2 : decode cX1_stateOf 2 = .ok (.iconst 0, 1) := by decide +kernel
theorem dX1_stateOf_3 : decode cX1_stateOf 3 = .ok (.istore_n 3, 1) := by decide +kernel
theorem dX1_stateOf_4 : decode cX1_stateOf 4 = .ok (.iload_n 3, 1) := by decide +kernel
theorem dX1_stateOf_5 : decode cX1_stateOf 5 = .ok (.aload_n 0, 1) := by decide +kernel
theorem dX1_stateOf_6 : decode cX1_stateOf 6 = .ok (.getfield 109, 3) := by decide +kernel
theorem dX1_stateOf_9 : decode cX1_stateOf 9 = .ok (.if_icmp .ge 99, 3) := by decide +kernel
theorem dX1_stateOf_12 : decode cX1_stateOf 12 = .ok (.iload_n 3, 1) := by decide +kernel
theorem dX1_stateOf_13 : decode cX1_stateOf 13 = .ok (.bipush 6, 2) := by decide +kernel
theorem dX1_stateOf_15 : decode cX1_stateOf 15 = .ok (.if_icmp .ge 93, 3) := by decide +kernel
theorem dX1_stateOf_18 : decode cX1_stateOf 18 = .ok (.aload_n 1, 1) := by decide +kernel
theorem dX1_stateOf_19 : decode cX1_stateOf 19 = .ok (.aload_n 0, 1) := by decide +kernel
theorem dX1_stateOf_20 : decode cX1_stateOf 20 = .ok (.getfield 18, 3) := by decide +kernel
theorem dX1_stateOf_23 : decode cX1_stateOf 23 = .ok (.iload_n 3, 1) := by decide +kernel
theorem dX1_stateOf_24 : decode cX1_stateOf 24 = .ok (.iaload, 1) := by decide +kernel
theorem dX1_stateOf_25 : decode cX1_stateOf 25 = .ok (.invokevirtual 142, 3) := by decide +kernel
theorem dX1_stateOf_28 : decode cX1_stateOf 28 = .ok (.istore 4, 2) := by decide +kernel
theorem dX1_stateOf_30 : decode cX1_stateOf 30 = .ok (.iconst 0, 1) := by decide +kernel
theorem dX1_stateOf_31 : decode cX1_stateOf 31 = .ok (.istore 5, 2) := by decide +kernel
theorem dX1_stateOf_33 : decode cX1_stateOf 33 = .ok (.iload 5, 2) := by decide +kernel
theorem dX1_stateOf_35 : decode cX1_stateOf 35 = .ok (.iload 4, 2) := by decide +kernel
theorem dX1_stateOf_37 : decode cX1_stateOf 37 = .ok (.if_icmp .ge 65, 3) := by decide +kernel
theorem dX1_stateOf_40 : decode cX1_stateOf 40 = .ok (.aload_n 1, 1) := by decide +kernel
theorem dX1_stateOf_41 : decode cX1_stateOf 41 = .ok (.aload_n 0, 1) := by decide +kernel
theorem dX1_stateOf_42 : decode cX1_stateOf 42 = .ok (.getfield 18, 3) := by decide +kernel
theorem dX1_stateOf_45 : decode cX1_stateOf 45 = .ok (.iload_n 3, 1) := by decide +kernel
theorem dX1_stateOf_46 : decode cX1_stateOf 46 = .ok (.iaload, 1) := by decide +kernel
theorem dX1_stateOf_47 : decode cX1_stateOf 47 = .ok (.iload 5, 2) := by decide +kernel
theorem dX1_stateOf_49 : decode cX1_stateOf 49 = .ok (.invokevirtual 124, 3) := by decide +kernel
theorem dX1_stateOf_52 : decode cX1_stateOf 52 = .ok (.istore 6, 2) := by decide +kernel
theorem dX1_stateOf_54 : decode cX1_stateOf 54 = .ok (.iload 6, 2) := by decide +kernel
theorem dX1_stateOf_56 : decode cX1_stateOf 56 = .ok (.ifCond .lt 40, 3) := by decide +kernel
theorem dX1_stateOf_59 : decode cX1_stateOf 59 = .ok (.iload 6, 2) := by decide +kernel
theorem dX1_stateOf_61 : decode cX1_stateOf 61 = .ok (.iconst 3, 1) := by decide +kernel
theorem dX1_stateOf_62 : decode cX1_stateOf 62 = .ok (.if_icmp .ge 34, 3) := by decide +kernel
theorem dX1_stateOf_65 : decode cX1_stateOf 65 = .ok (.iconst 1, 1) := by decide +kernel
theorem dX1_stateOf_66 : decode cX1_stateOf 66 = .ok (.iload 6, 2) := by decide +kernel
theorem dX1_stateOf_68 : decode cX1_stateOf 68 = .ok (.ishl, 1) := by decide +kernel
theorem dX1_stateOf_69 : decode cX1_stateOf 69 = .ok (.iconst 1, 1) := by decide +kernel
theorem dX1_stateOf_70 : decode cX1_stateOf 70 = .ok (.isub, 1) := by decide +kernel
theorem dX1_stateOf_71 : decode cX1_stateOf 71 = .ok (.istore 7, 2) := by decide +kernel
theorem dX1_stateOf_73 : decode cX1_stateOf 73 = .ok (.aload_n 0, 1) := by decide +kernel
theorem dX1_stateOf_74 : decode cX1_stateOf 74 = .ok (.getfield 22, 3) := by decide +kernel
theorem dX1_stateOf_77 : decode cX1_stateOf 77 = .ok (.iload 6, 2) := by decide +kernel
theorem dX1_stateOf_79 : decode cX1_stateOf 79 = .ok (.iload_n 3, 1) := by decide +kernel
theorem dX1_stateOf_80 : decode cX1_stateOf 80 = .ok (.iload_n 2, 1) := by decide +kernel
theorem dX1_stateOf_81 : decode cX1_stateOf 81 = .ok (.iload 7, 2) := by decide +kernel
theorem dX1_stateOf_83 : decode cX1_stateOf 83 = .ok (.iand, 1) := by decide +kernel
theorem dX1_stateOf_84 : decode cX1_stateOf 84 = .ok (.invokestatic 149, 3) := by decide +kernel
theorem dX1_stateOf_87 : decode cX1_stateOf 87 = .ok (.iadd, 1) := by decide +kernel
theorem dX1_stateOf_88 : decode cX1_stateOf 88 = .ok (.iastore, 1) := by decide +kernel
theorem dX1_stateOf_89 : decode cX1_stateOf 89 = .ok (.iload_n 2, 1) := by decide +kernel
theorem dX1_stateOf_90 : decode cX1_stateOf 90 = .ok (.iconst 1, 1) := by decide +kernel
theorem dX1_stateOf_91 : decode cX1_stateOf 91 = .ok (.iload 6, 2) := by decide +kernel
theorem dX1_stateOf_93 : decode cX1_stateOf 93 = .ok (.ishl, 1) := by decide +kernel
theorem dX1_stateOf_94 : decode cX1_stateOf 94 = .ok (.ior, 1) := by decide +kernel
theorem dX1_stateOf_95 : decode cX1_stateOf 95 = .ok (.istore_n 2, 1) := by decide +kernel
theorem dX1_stateOf_96 : decode cX1_stateOf 96 = .ok (.iinc 5 1, 3) := by decide +kernel
theorem dX1_stateOf_99 : decode cX1_stateOf 99 = .ok (.goto (-66), 3) := by decide +kernel
theorem dX1_stateOf_102 : decode cX1_stateOf 102 = .ok (.iinc 3 1, 3) := by decide +kernel
theorem dX1_stateOf_105 : decode cX1_stateOf 105 = .ok (.goto (-101), 3) := by decide +kernel
theorem dX1_stateOf_108 : decode cX1_stateOf 108 = .ok (.iconst 0, 1) := by decide +kernel
theorem dX1_stateOf_109 : decode cX1_stateOf 109 = .ok (.istore_n 3, 1) := by decide +kernel
theorem dX1_stateOf_110 : decode cX1_stateOf 110 = .ok (.aload_n 1, 1) := by decide +kernel
theorem dX1_stateOf_111 : decode cX1_stateOf 111 = .ok (.getfield 61, 3) := by decide +kernel
theorem dX1_stateOf_114 : decode cX1_stateOf 114 = .ok (.iconst 3, 1) := by decide +kernel
theorem dX1_stateOf_115 : decode cX1_stateOf 115 = .ok (.invokestatic 154, 3) := by decide +kernel
theorem dX1_stateOf_118 : decode cX1_stateOf 118 = .ok (.iconst 1, 1) := by decide +kernel
theorem dX1_stateOf_119 : decode cX1_stateOf 119 = .ok (.isub, 1) := by decide +kernel
theorem dX1_stateOf_120 : decode cX1_stateOf 120 = .ok (.istore 4, 2) := by decide +kernel
theorem dX1_stateOf_122 : decode cX1_stateOf 122 = .ok (.iload 4, 2) := by decide +kernel
theorem dX1_stateOf_124 : decode cX1_stateOf 124 = .ok (.ifCond .lt 26, 3) := by decide +kernel
theorem dX1_stateOf_127 : decode cX1_stateOf 127 = .ok (.iload_n 3, 1) := by decide +kernel
theorem dX1_stateOf_128 : decode cX1_stateOf 128 = .ok (.aload_n 0, 1) := by decide +kernel
theorem dX1_stateOf_129 : decode cX1_stateOf 129 = .ok (.iload 4, 2) := by decide +kernel
theorem dX1_stateOf_131 : decode cX1_stateOf 131 = .ok (.invokevirtual 64, 3) := by decide +kernel
theorem dX1_stateOf_134 : decode cX1_stateOf 134 = .ok (.imul, 1) := by decide +kernel
theorem dX1_stateOf_135 : decode cX1_stateOf 135 = .ok (.aload_n 0, 1) := by decide +kernel
theorem dX1_stateOf_136 : decode cX1_stateOf 136 = .ok (.getfield 22, 3) := by decide +kernel
theorem dX1_stateOf_139 : decode cX1_stateOf 139 = .ok (.iload 4, 2) := by decide +kernel
theorem dX1_stateOf_141 : decode cX1_stateOf 141 = .ok (.iaload, 1) := by decide +kernel
theorem dX1_stateOf_142 : decode cX1_stateOf 142 = .ok (.iadd, 1) := by decide +kernel
theorem dX1_stateOf_143 : decode cX1_stateOf 143 = .ok (.istore_n 3, 1) := by decide +kernel
theorem dX1_stateOf_144 : decode cX1_stateOf 144 = .ok (.iinc 4 (-1), 3) := by decide +kernel
theorem dX1_stateOf_147 : decode cX1_stateOf 147 = .ok (.goto (-25), 3) := by decide +kernel
theorem dX1_stateOf_150 : decode cX1_stateOf 150 = .ok (.iload_n 3, 1) := by decide +kernel
theorem dX1_stateOf_151 : decode cX1_stateOf 151 = .ok (.bipush 12, 2) := by decide +kernel
theorem dX1_stateOf_153 : decode cX1_stateOf 153 = .ok (.imul, 1) := by decide +kernel
theorem dX1_stateOf_154 : decode cX1_stateOf 154 = .ok (.aload_n 1, 1) := by decide +kernel
theorem dX1_stateOf_155 : decode cX1_stateOf 155 = .ok (.getfield 157, 3) := by decide +kernel
theorem dX1_stateOf_158 : decode cX1_stateOf 158 = .ok (.iadd, 1) := by decide +kernel
theorem dX1_stateOf_159 : decode cX1_stateOf 159 = .ok (.ireturn, 1) := by decide +kernel
theorem dX1_costOf_0 : decode cX1_costOf 0 = .ok (.iload_n 1, 1) := by decide +kernel
theorem dX1_costOf_1 : decode cX1_costOf 1 = .ok (.ifCond .lt 19, 3) := by decide +kernel
theorem dX1_costOf_4 : decode cX1_costOf 4 = .ok (.iload_n 1, 1) := by decide +kernel
theorem dX1_costOf_5 : decode cX1_costOf 5 = .ok (.sipush 4032, 3) := by decide +kernel
theorem dX1_costOf_8 : decode cX1_costOf 8 = .ok (.if_icmp .ge 12, 3) := by decide +kernel
theorem dX1_costOf_11 : decode cX1_costOf 11 = .ok (.aload_n 0, 1) := by decide +kernel
theorem dX1_costOf_12 : decode cX1_costOf 12 = .ok (.getfield 31, 3) := by decide +kernel
theorem dX1_costOf_15 : decode cX1_costOf 15 = .ok (.iload_n 1, 1) := by decide +kernel
theorem dX1_costOf_16 : decode cX1_costOf 16 = .ok (.iaload, 1) := by decide +kernel
theorem dX1_costOf_17 : decode cX1_costOf 17 = .ok (.goto 5, 3) := by decide +kernel
theorem dX1_costOf_20 : decode cX1_costOf 20 = .ok (.ldc 68, 2) := by decide +kernel
theorem dX1_costOf_22 : decode cX1_costOf 22 = .ok (.ireturn, 1) := by decide +kernel
theorem dX1_nearerQueue_0 : decode cX1_nearerQueue 0 = .ok (.aload_n 0, 1) := by decide +kernel
theorem dX1_nearerQueue_1 : decode cX1_nearerQueue 1 = .ok (.aload_n 0, 1) := by decide +kernel
theorem dX1_nearerQueue_2 : decode cX1_nearerQueue 2 = .ok (.getfield 37, 3) := by decide +kernel
theorem dX1_nearerQueue_5 : decode cX1_nearerQueue 5 = .ok (.invokevirtual 89, 3) := by decide +kernel
theorem dX1_nearerQueue_8 : decode cX1_nearerQueue 8 = .ok (.invokevirtual 93, 3) := by decide +kernel
theorem dX1_nearerQueue_11 : decode cX1_nearerQueue 11 = .ok (.aload_n 0, 1) := by decide +kernel
theorem dX1_nearerQueue_12 : decode cX1_nearerQueue 12 = .ok (.aload_n 0, 1) := by decide +kernel
theorem dX1_nearerQueue_13 : decode cX1_nearerQueue 13 = .ok (.getfield 41, 3) := by decide +kernel
theorem dX1_nearerQueue_16 : decode cX1_nearerQueue 16 = .ok (.invokevirtual 89, 3) := by decide +kernel
theorem dX1_nearerQueue_19 : decode cX1_nearerQueue 19 = .ok (.invokevirtual 93, 3) := by decide +kernel
theorem dX1_nearerQueue_22 : decode cX1_nearerQueue 22 = .ok (.if_icmp .ge 10, 3) := by decide +kernel
theorem dX1_nearerQueue_25 : decode cX1_nearerQueue 25 = .ok (.aload_n 0, 1) := by decide +kernel
theorem dX1_nearerQueue_26 : decode cX1_nearerQueue 26 = .ok (.getfield 37, 3) := by decide +kernel
theorem dX1_nearerQueue_29 : decode cX1_nearerQueue 29 = .ok (.goto 7, 3) := by decide +kernel
theorem dX1_nearerQueue_32 : decode cX1_nearerQueue 32 = .ok (.aload_n 0, 1) := by decide +kernel
theorem dX1_nearerQueue_33 : decode cX1_nearerQueue 33 = .ok (.getfield 41, 3) := by decide +kernel
theorem dX1_nearerQueue_36 : decode cX1_nearerQueue 36 = .ok (.areturn, 1) := by decide +kernel
theorem dX1_addNeighbour_0 : decode cX1_addNeighbour 0 = .ok (.aload_n 0, 1) := by decide +kernel
theorem dX1_addNeighbour_1 : decode cX1_addNeighbour 1 = .ok (.getfield 160, 3) := by decide +kernel
theorem dX1_addNeighbour_4 : decode cX1_addNeighbour 4 = .ok (.ifCond .lt 42, 3) := by decide +kernel
theorem dX1_addNeighbour_7 : decode cX1_addNeighbour 7 = .ok (.aload_n 0, 1) := by decide +kernel
theorem dX1_addNeighbour_8 : decode cX1_addNeighbour 8 = .ok (.getfield 160, 3) := by decide +kernel
theorem dX1_addNeighbour_11 : decode cX1_addNeighbour 11 = .ok (.bipush 14, 2) := by decide +kernel
theorem dX1_addNeighbour_13 : decode cX1_addNeighbour 13 = .ok (.if_icmp .ge 33, 3) := by decide +kernel
theorem dX1_addNeighbour_16 : decode cX1_addNeighbour 16 = .ok (.aload_n 0, 1) := by decide +kernel
theorem dX1_addNeighbour_17 : decode cX1_addNeighbour 17 = .ok (.getfield 25, 3) := by decide +kernel
theorem dX1_addNeighbour_20 : decode cX1_addNeighbour 20 = .ok (.aload_n 0, 1) := by decide +kernel
theorem dX1_addNeighbour_21 : decode cX1_addNeighbour 21 = .ok (.getfield 160, 3) := by decide +kernel
theorem dX1_addNeighbour_24 : decode cX1_addNeighbour 24 = .ok (.iload_n 1, 1) := by decide +kernel
theorem dX1_addNeighbour_25 : decode cX1_addNeighbour 25 = .ok (.iastore, 1) := by decide +kernel
theorem dX1_addNeighbour_26 : decode cX1_addNeighbour 26 = .ok (.aload_n 0, 1) := by decide +kernel
theorem dX1_addNeighbour_27 : decode cX1_addNeighbour 27 = .ok (.getfield 28, 3) := by decide +kernel
theorem dX1_addNeighbour_30 : decode cX1_addNeighbour 30 = .ok (.aload_n 0, 1) := by decide +kernel
theorem dX1_addNeighbour_31 : decode cX1_addNeighbour 31 = .ok (.getfield 160, 3) := by decide +kernel
theorem dX1_addNeighbour_34 : decode cX1_addNeighbour 34 = .ok (.iload_n 2, 1) := by decide +kernel
theorem dX1_addNeighbour_35 : decode cX1_addNeighbour 35 = .ok (.iastore, 1) := by decide +kernel
theorem dX1_addNeighbour_36 : decode cX1_addNeighbour 36 = .ok (.aload_n 0, 1) := by decide +kernel
theorem dX1_addNeighbour_37 : decode cX1_addNeighbour 37 = .ok (.dup, 1) := by decide +kernel
theorem dX1_addNeighbour_38 : decode cX1_addNeighbour 38 = .ok (.getfield 160, 3) := by decide +kernel
theorem dX1_addNeighbour_41 : decode cX1_addNeighbour 41 = .ok (.iconst 1, 1) := by decide +kernel
theorem dX1_addNeighbour_42 : decode cX1_addNeighbour 42 = .ok (.iadd, 1) := by decide +kernel
theorem dX1_addNeighbour_43 : decode cX1_addNeighbour 43 = .ok (.putfield 160, 3) := by decide +kernel
theorem dX1_addNeighbour_46 : decode cX1_addNeighbour 46 = .ok (.return_, 1) := by decide +kernel
theorem dX1_addMovements_0 : decode cX1_addMovements 0 = .ok (.aload_n 0, 1) := by decide +kernel
theorem dX1_addMovements_1 : decode cX1_addMovements 1 = .ok (.getfield 12, 3) := by decide +kernel
theorem dX1_addMovements_4 : decode cX1_addMovements 4 = .ok (.aload_n 0, 1) := by decide +kernel
theorem dX1_addMovements_5 : decode cX1_addMovements 5 = .ok (.getfield 12, 3) := by decide +kernel
theorem dX1_addMovements_8 : decode cX1_addMovements 8 = .ok (.iload_n 1, 1) := by decide +kernel
theorem dX1_addMovements_9 : decode cX1_addMovements 9 = .ok (.invokevirtual 175, 3) := by decide +kernel
theorem dX1_addMovements_12 : decode cX1_addMovements 12 = .ok (.invokevirtual 142, 3) := by decide +kernel
theorem dX1_addMovements_15 : decode cX1_addMovements 15 = .ok (.iconst 3, 1) := by decide +kernel
theorem dX1_addMovements_16 : decode cX1_addMovements 16 = .ok (.invokestatic 154, 3) := by decide +kernel
theorem dX1_addMovements_19 : decode cX1_addMovements 19 = .ok (.istore_n 2, 1) := by decide +kernel
theorem dX1_addMovements_20 : decode cX1_addMovements 20 = .ok (.iconst 1, 1) := by decide +kernel
theorem dX1_addMovements_21 : decode cX1_addMovements 21 = .ok (.istore_n 3, 1) := by decide +kernel
theorem dX1_addMovements_22 : decode cX1_addMovements 22 = .ok (.iload_n 3, 1) := by decide +kernel
theorem dX1_addMovements_23 : decode cX1_addMovements 23 = .ok (.iload_n 2, 1) := by decide +kernel
theorem dX1_addMovements_24 : decode cX1_addMovements 24 = .ok (.if_icmp .gt 57, 3) := by decide +kernel
theorem dX1_addMovements_27 : decode cX1_addMovements 27 = .ok (.aload_n 0, 1) := by decide +kernel
theorem dX1_addMovements_28 : decode cX1_addMovements 28 = .ok (.getfield 12, 3) := by decide +kernel
theorem dX1_addMovements_31 : decode cX1_addMovements 31 = .ok (.iload_n 1, 1) := by decide +kernel
theorem dX1_addMovements_32 : decode cX1_addMovements 32 = .ok (.iload_n 3, 1) := by decide +kernel
theorem dX1_addMovements_33 : decode cX1_addMovements 33 = .ok (.invokevirtual 178, 3) := by decide +kernel
theorem dX1_addMovements_36 : decode cX1_addMovements 36 = .ok (.ifCond .ne 39, 3) := by decide +kernel
theorem dX1_addMovements_39 : decode cX1_addMovements 39 = .ok (.aload_n 0, 1) := by decide +kernel
theorem dX1_addMovements_40 : decode cX1_addMovements 40 = .ok (.getfield 12, 3) := by decide +kernel
theorem dX1_addMovements_43 : decode cX1_addMovements 43 = .ok (.iload_n 1, 1) := by decide +kernel
theorem dX1_addMovements_44 : decode cX1_addMovements 44 = .ok (.iload_n 3, 1) := by decide +kernel
theorem dX1_addMovements_45 : decode cX1_addMovements 45 = .ok (.invokevirtual 181, 3) := by decide +kernel
theorem dX1_addMovements_48 : decode cX1_addMovements 48 = .ok (.aload_n 0, 1) := by decide +kernel
theorem dX1_addMovements_49 : decode cX1_addMovements 49 = .ok (.iload_n 1, 1) := by decide +kernel
theorem dX1_addMovements_50 : decode cX1_addMovements 50 = .ok (.iload_n 3, 1) := by decide +kernel
theorem dX1_addMovements_51 : decode cX1_addMovements 51 = .ok (.iadd, 1) := by decide +kernel
theorem dX1_addMovements_52 : decode cX1_addMovements 52 = .ok (.aload_n 0, 1) := by decide +kernel
theorem dX1_addMovements_53 : decode cX1_addMovements 53 = .ok (.aload_n 0, 1) := by decide +kernel
theorem dX1_addMovements_54 : decode cX1_addMovements 54 = .ok (.getfield 12, 3) := by decide +kernel
theorem dX1_addMovements_57 : decode cX1_addMovements 57 = .ok (.invokevirtual 81, 3) := by decide +kernel
theorem dX1_addMovements_60 : decode cX1_addMovements 60 = .ok (.invokevirtual 166, 3) := by decide +kernel
theorem dX1_addMovements_63 : decode cX1_addMovements 63 = .ok (.aload_n 0, 1) := by decide +kernel
theorem dX1_addMovements_64 : decode cX1_addMovements 64 = .ok (.getfield 12, 3) := by decide +kernel
theorem dX1_addMovements_67 : decode cX1_addMovements 67 = .ok (.iload_n 1, 1) := by decide +kernel
theorem dX1_addMovements_68 : decode cX1_addMovements 68 = .ok (.invokestatic 184, 3) := by decide +kernel
theorem dX1_addMovements_71 : decode cX1_addMovements 71 = .ok (.iload_n 3, 1) := by decide +kernel
theorem dX1_addMovements_72 : decode cX1_addMovements 72 = .ok (.invokevirtual 181, 3) := by decide +kernel
theorem dX1_addMovements_75 : decode cX1_addMovements 75 = .ok (.iinc 3 1, 3) := by decide +kernel
theorem dX1_addMovements_78 : decode cX1_addMovements 78 = .ok (.goto (-56), 3) := by decide +kernel
theorem dX1_addMovements_81 : decode cX1_addMovements 81 = .ok (.return_, 1) := by decide +kernel
theorem dX1_listNeighbours_0 : decode cX1_listNeighbours 0 = .ok (.aload_n 0, 1) := by decide +kernel
theorem dX1_listNeighbours_1 : decode cX1_listNeighbours 1 = .ok (.iconst 0, 1) := by decide +kernel
theorem dX1_listNeighbours_2 : decode cX1_listNeighbours 2 = .ok (.putfield 160, 3) := by decide +kernel
theorem dX1_listNeighbours_5 : decode cX1_listNeighbours 5 = .ok (.iload_n 1, 1) := by decide +kernel
theorem dX1_listNeighbours_6 : decode cX1_listNeighbours 6 = .ok (.bipush 12, 2) := by decide +kernel
theorem dX1_listNeighbours_8 : decode cX1_listNeighbours 8 = .ok (.invokestatic 163, 3) := by decide +kernel
theorem dX1_listNeighbours_11 : decode cX1_listNeighbours 11 = .ok (.istore_n 2, 1) := by decide +kernel
theorem dX1_listNeighbours_12 : decode cX1_listNeighbours 12 = .ok (.aload_n 0, 1) := by decide +kernel
theorem dX1_listNeighbours_13 : decode cX1_listNeighbours 13 = .ok (.iconst 0, 1) := by decide +kernel
theorem dX1_listNeighbours_14 : decode cX1_listNeighbours 14 = .ok (.iload_n 1, 1) := by decide +kernel
theorem dX1_listNeighbours_15 : decode cX1_listNeighbours 15 = .ok (.iload_n 2, 1) := by decide +kernel
theorem dX1_listNeighbours_16 : decode cX1_listNeighbours 16 = .ok (.isub, 1) := by decide +kernel
theorem dX1_listNeighbours_17 : decode cX1_listNeighbours 17 = .ok (.iload_n 2, 1) := by decide +kernel
theorem dX1_listNeighbours_18 : decode cX1_listNeighbours 18 = .ok (.iconst 1, 1) := by decide +kernel
theorem dX1_listNeighbours_19 : decode cX1_listNeighbours 19 = .ok (.iadd, 1) := by decide +kernel
theorem dX1_listNeighbours_20 : decode cX1_listNeighbours 20 = .ok (.bipush 12, 2) := by decide +kernel
theorem dX1_listNeighbours_22 : decode cX1_listNeighbours 22 = .ok (.irem, 1) := by decide +kernel
theorem dX1_listNeighbours_23 : decode cX1_listNeighbours 23 = .ok (.iadd, 1) := by decide +kernel
theorem dX1_listNeighbours_24 : decode cX1_listNeighbours 24 = .ok (.invokevirtual 166, 3) := by decide +kernel
theorem dX1_listNeighbours_27 : decode cX1_listNeighbours 27 = .ok (.aload_n 0, 1) := by decide +kernel
theorem dX1_listNeighbours_28 : decode cX1_listNeighbours 28 = .ok (.iconst 1, 1) := by decide +kernel
theorem dX1_listNeighbours_29 : decode cX1_listNeighbours 29 = .ok (.iload_n 1, 1) := by decide +kernel
theorem dX1_listNeighbours_30 : decode cX1_listNeighbours 30 = .ok (.iload_n 2, 1) := by decide +kernel
theorem dX1_listNeighbours_31 : decode cX1_listNeighbours 31 = .ok (.isub, 1) := by decide +kernel
theorem dX1_listNeighbours_32 : decode cX1_listNeighbours 32 = .ok (.iload_n 2, 1) := by decide +kernel
theorem dX1_listNeighbours_33 : decode cX1_listNeighbours 33 = .ok (.bipush 12, 2) := by decide +kernel
theorem dX1_listNeighbours_35 : decode cX1_listNeighbours 35 = .ok (.iadd, 1) := by decide +kernel
theorem dX1_listNeighbours_36 : decode cX1_listNeighbours 36 = .ok (.iconst 1, 1) := by decide +kernel
theorem dX1_listNeighbours_37 : decode cX1_listNeighbours 37 = .ok (.isub, 1) := by decide +kernel
theorem dX1_listNeighbours_38 : decode cX1_listNeighbours 38 = .ok (.bipush 12, 2) := by decide +kernel
theorem dX1_listNeighbours_40 : decode cX1_listNeighbours 40 = .ok (.irem, 1) := by decide +kernel
theorem dX1_listNeighbours_41 : decode cX1_listNeighbours 41 = .ok (.iadd, 1) := by decide +kernel
theorem dX1_listNeighbours_42 : decode cX1_listNeighbours 42 = .ok (.invokevirtual 166, 3) := by decide +kernel
theorem dX1_listNeighbours_45 : decode cX1_listNeighbours 45 = .ok (.aload_n 0, 1) := by decide +kernel
theorem dX1_listNeighbours_46 : decode cX1_listNeighbours 46 = .ok (.getfield 12, 3) := by decide +kernel
theorem dX1_listNeighbours_49 : decode cX1_listNeighbours 49 = .ok (.iload_n 2, 1) := by decide +kernel
theorem dX1_listNeighbours_50 : decode cX1_listNeighbours 50 = .ok (.putfield 157, 3) := by decide +kernel
theorem dX1_listNeighbours_53 : decode cX1_listNeighbours 53 = .ok (.aload_n 0, 1) := by decide +kernel
theorem dX1_listNeighbours_54 : decode cX1_listNeighbours 54 = .ok (.getfield 12, 3) := by decide +kernel
theorem dX1_listNeighbours_57 : decode cX1_listNeighbours 57 = .ok (.aload_n 0, 1) := by decide +kernel
theorem dX1_listNeighbours_58 : decode cX1_listNeighbours 58 = .ok (.getfield 12, 3) := by decide +kernel
theorem dX1_listNeighbours_61 : decode cX1_listNeighbours 61 = .ok (.iconst 0, 1) := by decide +kernel
theorem dX1_listNeighbours_62 : decode cX1_listNeighbours 62 = .ok (.invokevirtual 169, 3) := by decide +kernel
theorem dX1_listNeighbours_65 : decode cX1_listNeighbours 65 = .ok (.invokevirtual 112, 3) := by decide +kernel
theorem dX1_listNeighbours_68 : decode cX1_listNeighbours 68 = .ok (.ifCond .le 7, 3) := by decide +kernel
theorem dX1_listNeighbours_71 : decode cX1_listNeighbours 71 = .ok (.iconst 1, 1) := by decide +kernel
theorem dX1_listNeighbours_72 : decode cX1_listNeighbours 72 = .ok (.goto 4, 3) := by decide +kernel
theorem dX1_listNeighbours_75 : decode cX1_listNeighbours 75 = .ok (.iconst 0, 1) := by decide +kernel
theorem dX1_listNeighbours_76 : decode cX1_listNeighbours 76 = .ok (.istore_n 3, 1) := by decide +kernel
theorem dX1_listNeighbours_77 : decode cX1_listNeighbours 77 = .ok (.aload_n 0, 1) := by decide +kernel
theorem dX1_listNeighbours_78 : decode cX1_listNeighbours 78 = .ok (.getfield 12, 3) := by decide +kernel
theorem dX1_listNeighbours_81 : decode cX1_listNeighbours 81 = .ok (.aload_n 0, 1) := by decide +kernel
theorem dX1_listNeighbours_82 : decode cX1_listNeighbours 82 = .ok (.getfield 12, 3) := by decide +kernel
theorem dX1_listNeighbours_85 : decode cX1_listNeighbours 85 = .ok (.iconst 1, 1) := by decide +kernel
theorem dX1_listNeighbours_86 : decode cX1_listNeighbours 86 = .ok (.invokevirtual 169, 3) := by decide +kernel
theorem dX1_listNeighbours_89 : decode cX1_listNeighbours 89 = .ok (.invokevirtual 112, 3) := by decide +kernel
theorem dX1_listNeighbours_92 : decode cX1_listNeighbours 92 = .ok (.ifCond .le 7, 3) := by decide +kernel
theorem dX1_listNeighbours_95 : decode cX1_listNeighbours 95 = .ok (.iconst 1, 1) := by decide +kernel
theorem dX1_listNeighbours_96 : decode cX1_listNeighbours 96 = .ok (.goto 4, 3) := by decide +kernel
theorem dX1_listNeighbours_99 : decode cX1_listNeighbours 99 = .ok (.iconst 0, 1) := by decide +kernel
theorem dX1_listNeighbours_100 : decode cX1_listNeighbours 100 = .ok (.istore 4, 2) := by decide +kernel
theorem dX1_listNeighbours_102 : decode cX1_listNeighbours 102 = .ok (.iload_n 3, 1) := by decide +kernel
theorem dX1_listNeighbours_103 : decode cX1_listNeighbours 103 = .ok (.ifCond .ne 8, 3) := by decide +kernel
theorem dX1_listNeighbours_106 : decode cX1_listNeighbours 106 = .ok (.iload 4, 2) := by decide +kernel
theorem dX1_listNeighbours_108 : decode cX1_listNeighbours 108 = .ok (.ifCond .eq 32, 3) := by decide +kernel
theorem dX1_listNeighbours_111 : decode cX1_listNeighbours 111 = .ok (.aload_n 0, 1) := by decide +kernel
theorem dX1_listNeighbours_112 : decode cX1_listNeighbours 112 = .ok (.iload_n 1, 1) := by decide +kernel
theorem dX1_listNeighbours_113 : decode cX1_listNeighbours 113 = .ok (.invokevirtual 121, 3) := by decide +kernel
theorem dX1_listNeighbours_116 : decode cX1_listNeighbours 116 = .ok (.aload_n 0, 1) := by decide +kernel
theorem dX1_listNeighbours_117 : decode cX1_listNeighbours 117 = .ok (.bipush 10, 2) := by decide +kernel
theorem dX1_listNeighbours_119 : decode cX1_listNeighbours 119 = .ok (.invokevirtual 172, 3) := by decide +kernel
theorem dX1_listNeighbours_122 : decode cX1_listNeighbours 122 = .ok (.aload_n 0, 1) := by decide +kernel
theorem dX1_listNeighbours_123 : decode cX1_listNeighbours 123 = .ok (.bipush 20, 2) := by decide +kernel
theorem dX1_listNeighbours_125 : decode cX1_listNeighbours 125 = .ok (.invokevirtual 172, 3) := by decide +kernel
theorem dX1_listNeighbours_128 : decode cX1_listNeighbours 128 = .ok (.aload_n 0, 1) := by decide +kernel
theorem dX1_listNeighbours_129 : decode cX1_listNeighbours 129 = .ok (.bipush 30, 2) := by decide +kernel
theorem dX1_listNeighbours_131 : decode cX1_listNeighbours 131 = .ok (.invokevirtual 172, 3) := by decide +kernel
theorem dX1_listNeighbours_134 : decode cX1_listNeighbours 134 = .ok (.aload_n 0, 1) := by decide +kernel
theorem dX1_listNeighbours_135 : decode cX1_listNeighbours 135 = .ok (.bipush 40, 2) := by decide +kernel
theorem dX1_listNeighbours_137 : decode cX1_listNeighbours 137 = .ok (.invokevirtual 172, 3) := by decide +kernel
theorem dX1_listNeighbours_140 : decode cX1_listNeighbours 140 = .ok (.return_, 1) := by decide +kernel
theorem dX1_costOfAction_0 : decode cX1_costOfAction 0 = .ok (.iload_n 0, 1) := by decide +kernel
theorem dX1_costOfAction_1 : decode cX1_costOfAction 1 = .ok (.iconst 1, 1) := by decide +kernel
theorem dX1_costOfAction_2 : decode cX1_costOfAction 2 = .ok (.if_icmp .gt 9, 3) := by decide +kernel
theorem dX1_costOfAction_5 : decode cX1_costOfAction 5 = .ok (.sipush 10001, 3) := by decide +kernel
theorem dX1_costOfAction_8 : decode cX1_costOfAction 8 = .ok (.goto 4, 3) := by decide +kernel
theorem dX1_costOfAction_11 : decode cX1_costOfAction 11 = .ok (.iconst 1, 1) := by decide +kernel
theorem dX1_costOfAction_12 : decode cX1_costOfAction 12 = .ok (.ireturn, 1) := by decide +kernel
theorem dX1_improveNeighbours_0 : decode cX1_improveNeighbours 0 = .ok (.iconst 0, 1) := by decide +kernel
theorem dX1_improveNeighbours_1 : decode cX1_improveNeighbours 1 = .ok (.istore_n 2, 1) := by decide +kernel
theorem dX1_improveNeighbours_2 : decode cX1_improveNeighbours 2 = .ok (.iload_n 2, 1) := by decide +kernel
theorem dX1_improveNeighbours_3 : decode cX1_improveNeighbours 3 = .ok (.aload_n 0, 1) := by decide +kernel
theorem dX1_improveNeighbours_4 : decode cX1_improveNeighbours 4 = .ok (.getfield 160, 3) := by decide +kernel
theorem dX1_improveNeighbours_7 : decode cX1_improveNeighbours 7 = .ok (.if_icmp .ge 59, 3) := by decide +kernel
theorem dX1_improveNeighbours_10 : decode cX1_improveNeighbours 10 = .ok (.iload_n 2, 1) := by decide +kernel
theorem dX1_improveNeighbours_11 : decode cX1_improveNeighbours 11 = .ok (.bipush 14, 2) := by decide +kernel
theorem dX1_improveNeighbours_13 : decode cX1_improveNeighbours 13 = .ok (.if_icmp .ge 53, 3) := by decide +kernel
theorem dX1_improveNeighbours_16 : decode cX1_improveNeighbours 16 = .ok (.aload_n 0, 1) := by decide +kernel
theorem dX1_improveNeighbours_17 : decode cX1_improveNeighbours 17 = .ok (.getfield 25, 3) := by decide +kernel
theorem dX1_improveNeighbours_20 : decode cX1_improveNeighbours 20 = .ok (.iload_n 2, 1) := by decide +kernel
theorem dX1_improveNeighbours_21 : decode cX1_improveNeighbours 21 = .ok (.iaload, 1) := by decide +kernel
theorem dX1_improveNeighbours_22 : decode cX1_improveNeighbours 22 = .ok (.iconst 1, 1) := by decide +kernel
theorem dX1_improveNeighbours_23 : decode cX1_improveNeighbours 23 = .ok (.if_icmp .gt 10, 3) := by decide +kernel
theorem dX1_improveNeighbours_26 : decode cX1_improveNeighbours 26 = .ok (.aload_n 0, 1) := by decide +kernel
theorem dX1_improveNeighbours_27 : decode cX1_improveNeighbours 27 = .ok (.getfield 37, 3) := by decide +kernel
theorem dX1_improveNeighbours_30 : decode cX1_improveNeighbours 30 = .ok (.goto 7, 3) := by decide +kernel
theorem dX1_improveNeighbours_33 : decode cX1_improveNeighbours 33 = .ok (.aload_n 0, 1) := by decide +kernel
theorem dX1_improveNeighbours_34 : decode cX1_improveNeighbours 34 = .ok (.getfield 41, 3) := by decide +kernel
theorem dX1_improveNeighbours_37 : decode cX1_improveNeighbours 37 = .ok (.astore_n 3, 1) := by decide +kernel
theorem dX1_improveNeighbours_38 : decode cX1_improveNeighbours 38 = .ok (.aload_n 0, 1) := by decide +kernel
theorem dX1_improveNeighbours_39 : decode cX1_improveNeighbours 39 = .ok (.aload_n 0, 1) := by decide +kernel
theorem dX1_improveNeighbours_40 : decode cX1_improveNeighbours 40 = .ok (.getfield 28, 3) := by decide +kernel
theorem dX1_improveNeighbours_43 : decode cX1_improveNeighbours 43 = .ok (.iload_n 2, 1) := by decide +kernel
theorem dX1_improveNeighbours_44 : decode cX1_improveNeighbours 44 = .ok (.iaload, 1) := by decide +kernel
theorem dX1_improveNeighbours_45 : decode cX1_improveNeighbours 45 = .ok (.iload_n 1, 1) := by decide +kernel
theorem dX1_improveNeighbours_46 : decode cX1_improveNeighbours 46 = .ok (.aload_n 0, 1) := by decide +kernel
theorem dX1_improveNeighbours_47 : decode cX1_improveNeighbours 47 = .ok (.getfield 25, 3) := by decide +kernel
theorem dX1_improveNeighbours_50 : decode cX1_improveNeighbours 50 = .ok (.iload_n 2, 1) := by decide +kernel
theorem dX1_improveNeighbours_51 : decode cX1_improveNeighbours 51 = .ok (.iaload, 1) := by decide +kernel
theorem dX1_improveNeighbours_52 : decode cX1_improveNeighbours 52 = .ok (.invokestatic 187, 3) := by decide +kernel
theorem dX1_improveNeighbours_55 : decode cX1_improveNeighbours 55 = .ok (.iadd, 1) := by decide +kernel
theorem dX1_improveNeighbours_56 : decode cX1_improveNeighbours 56 = .ok (.aload_n 3, 1) := by decide +kernel
theorem dX1_improveNeighbours_57 : decode cX1_improveNeighbours 57 = .ok (.invokevirtual 131, 3) := by decide +kernel
theorem dX1_improveNeighbours_60 : decode cX1_improveNeighbours 60 = .ok (.iinc 2 1, 3) := by decide +kernel
theorem dX1_improveNeighbours_63 : decode cX1_improveNeighbours 63 = .ok (.goto (-61), 3) := by decide +kernel
theorem dX1_improveNeighbours_66 : decode cX1_improveNeighbours 66 = .ok (.return_, 1) := by decide +kernel
theorem dX1_bestCost_0 : decode cX1_bestCost 0 = .ok (.aload_n 0, 1) := by decide +kernel
theorem dX1_bestCost_1 : decode cX1_bestCost 1 = .ok (.aload_n 1, 1) := by decide +kernel
theorem dX1_bestCost_2 : decode cX1_bestCost 2 = .ok (.invokevirtual 81, 3) := by decide +kernel
theorem dX1_bestCost_5 : decode cX1_bestCost 5 = .ok (.istore_n 2, 1) := by decide +kernel
theorem dX1_bestCost_6 : decode cX1_bestCost 6 = .ok (.iconst 0, 1) := by decide +kernel
theorem dX1_bestCost_7 : decode cX1_bestCost 7 = .ok (.istore_n 3, 1) := by decide +kernel
theorem dX1_bestCost_8 : decode cX1_bestCost 8 = .ok (.iload_n 3, 1) := by decide +kernel
theorem dX1_bestCost_9 : decode cX1_bestCost 9 = .ok (.sipush 8064, 3) := by decide +kernel
theorem dX1_bestCost_12 : decode cX1_bestCost 12 = .ok (.if_icmp .ge 58, 3) := by decide +kernel
theorem dX1_bestCost_15 : decode cX1_bestCost 15 = .ok (.aload_n 0, 1) := by decide +kernel
theorem dX1_bestCost_16 : decode cX1_bestCost 16 = .ok (.invokevirtual 85, 3) := by decide +kernel
theorem dX1_bestCost_19 : decode cX1_bestCost 19 = .ok (.astore 4, 2) := by decide +kernel
theorem dX1_bestCost_21 : decode cX1_bestCost 21 = .ok (.aload_n 0, 1) := by decide +kernel
theorem dX1_bestCost_22 : decode cX1_bestCost 22 = .ok (.aload 4, 2) := by decide +kernel
theorem dX1_bestCost_24 : decode cX1_bestCost 24 = .ok (.invokevirtual 89, 3) := by decide +kernel
theorem dX1_bestCost_27 : decode cX1_bestCost 27 = .ok (.invokevirtual 93, 3) := by decide +kernel
theorem dX1_bestCost_30 : decode cX1_bestCost 30 = .ok (.aload_n 0, 1) := by decide +kernel
theorem dX1_bestCost_31 : decode cX1_bestCost 31 = .ok (.iload_n 2, 1) := by decide +kernel
theorem dX1_bestCost_32 : decode cX1_bestCost 32 = .ok (.invokevirtual 93, 3) := by decide +kernel
theorem dX1_bestCost_35 : decode cX1_bestCost 35 = .ok (.if_icmp .lt 6, 3) := by decide +kernel
theorem dX1_bestCost_38 : decode cX1_bestCost 38 = .ok (.goto 32, 3) := by decide +kernel
theorem dX1_bestCost_41 : decode cX1_bestCost 41 = .ok (.aload 4, 2) := by decide +kernel
theorem dX1_bestCost_43 : decode cX1_bestCost 43 = .ok (.invokevirtual 96, 3) := by decide +kernel
theorem dX1_bestCost_46 : decode cX1_bestCost 46 = .ok (.istore 5, 2) := by decide +kernel
theorem dX1_bestCost_48 : decode cX1_bestCost 48 = .ok (.aload_n 0, 1) := by decide +kernel
theorem dX1_bestCost_49 : decode cX1_bestCost 49 = .ok (.iload 5, 2) := by decide +kernel
theorem dX1_bestCost_51 : decode cX1_bestCost 51 = .ok (.invokevirtual 99, 3) := by decide +kernel
theorem dX1_bestCost_54 : decode cX1_bestCost 54 = .ok (.aload_n 0, 1) := by decide +kernel
theorem dX1_bestCost_55 : decode cX1_bestCost 55 = .ok (.aload_n 0, 1) := by decide +kernel
theorem dX1_bestCost_56 : decode cX1_bestCost 56 = .ok (.iload 5, 2) := by decide +kernel
theorem dX1_bestCost_58 : decode cX1_bestCost 58 = .ok (.invokevirtual 93, 3) := by decide +kernel
theorem dX1_bestCost_61 : decode cX1_bestCost 61 = .ok (.invokevirtual 103, 3) := by decide +kernel
theorem dX1_bestCost_64 : decode cX1_bestCost 64 = .ok (.iinc 3 1, 3) := by decide +kernel
theorem dX1_bestCost_67 : decode cX1_bestCost 67 = .ok (.goto (-59), 3) := by decide +kernel
theorem dX1_bestCost_70 : decode cX1_bestCost 70 = .ok (.aload_n 0, 1) := by decide +kernel
theorem dX1_bestCost_71 : decode cX1_bestCost 71 = .ok (.iload_n 2, 1) := by decide +kernel
theorem dX1_bestCost_72 : decode cX1_bestCost 72 = .ok (.invokevirtual 93, 3) := by decide +kernel
theorem dX1_bestCost_75 : decode cX1_bestCost 75 = .ok (.ireturn, 1) := by decide +kernel
