theorem dX5_pointed_0 : decode cX5_pointed 0 = .ok (.aload_n 0, 1) := by decide +kernel
theorem dX5_pointed_1 : decode cX5_pointed 1 = .ok (.getfield 7, 3) := by decide +kernel
theorem dX5_pointed_4 : decode cX5_pointed 4 = .ok (.bipush 13, 2) := by decide +kernel
theorem dX5_pointed_6 : decode cX5_pointed 6 = .ok (.iaload, 1) := by decide +kernel
theorem dX5_pointed_7 : decode cX5_pointed 7 = .ok (.bipush 6, 2) := by decide +kernel
theorem dX5_pointed_9 : decode cX5_pointed 9 = .ok (.iload_n 1, 1) := by decide +kernel
theorem dX5_pointed_10 : decode cX5_pointed 10 = .ok (.imul, 1) := by decide +kernel
theorem dX5_pointed_11 : decode cX5_pointed 11 = .ok (.iadd, 1) := by decide +kernel
theorem dX5_pointed_12 : decode cX5_pointed 12 = .ok (.bipush 12, 2) := by decide +kernel
theorem dX5_pointed_14 : decode cX5_pointed 14 = .ok (.irem, 1) := by decide +kernel
theorem dX5_pointed_15 : decode cX5_pointed 15 = .ok (.ireturn, 1) := by decide +kernel
theorem dX5_pointsTo_0 : decode cX5_pointsTo 0 = .ok (.iload_n 1, 1) := by decide +kernel
theorem dX5_pointsTo_1 : decode cX5_pointsTo 1 = .ok (.invokestatic 119, 3) := by decide +kernel
theorem dX5_pointsTo_4 : decode cX5_pointsTo 4 = .ok (.ifCond .eq 11, 3) := by decide +kernel
theorem dX5_pointsTo_7 : decode cX5_pointsTo 7 = .ok (.aload_n 0, 1) := by decide +kernel
theorem dX5_pointsTo_8 : decode cX5_pointsTo 8 = .ok (.iload_n 1, 1) := by decide +kernel
theorem dX5_pointsTo_9 : decode cX5_pointsTo 9 = .ok (.invokevirtual 122, 3) := by decide +kernel
theorem dX5_pointsTo_12 : decode cX5_pointsTo 12 = .ok (.goto 5, 3) := by decide +kernel
theorem dX5_pointsTo_15 : decode cX5_pointsTo 15 = .ok (.bipush (-4), 2) := by decide +kernel
theorem dX5_pointsTo_17 : decode cX5_pointsTo 17 = .ok (.ireturn, 1) := by decide +kernel
theorem dX5_write_0 : decode cX5_write 0 = .ok (.aload_n 0, 1) := by decide +kernel
theorem dX5_write_1 : decode cX5_write 1 = .ok (.getfield 81, 3) := by decide +kernel
theorem dX5_write_4 : decode cX5_write 4 = .ok (.bipush 40, 2) := by decide +kernel
theorem dX5_write_6 : decode cX5_write 6 = .ok (.if_icmp .ne 41, 3) := by decide +kernel
theorem dX5_write_9 : decode cX5_write 9 = .ok (.iconst 1, 1) := by decide +kernel
theorem dX5_write_10 : decode cX5_write 10 = .ok (.istore_n 2, 1) := by decide +kernel
theorem dX5_write_11 : decode cX5_write 11 = .ok (.iload_n 2, 1) := by decide +kernel
theorem dX5_write_12 : decode cX5_write 12 = .ok (.bipush 40, 2) := by decide +kernel
theorem dX5_write_14 : decode cX5_write 14 = .ok (.if_icmp .ge 23, 3) := by decide +kernel
theorem dX5_write_17 : decode cX5_write 17 = .ok (.aload_n 0, 1) := by decide +kernel
theorem dX5_write_18 : decode cX5_write 18 = .ok (.getfield 20, 3) := by decide +kernel
theorem dX5_write_21 : decode cX5_write 21 = .ok (.iload_n 2, 1) := by decide +kernel
theorem dX5_write_22 : decode cX5_write 22 = .ok (.iconst 1, 1) := by decide +kernel
theorem dX5_write_23 : decode cX5_write 23 = .ok (.isub, 1) := by decide +kernel
theorem dX5_write_24 : decode cX5_write 24 = .ok (.aload_n 0, 1) := by decide +kernel
theorem dX5_write_25 : decode cX5_write 25 = .ok (.getfield 20, 3) := by decide +kernel
theorem dX5_write_28 : decode cX5_write 28 = .ok (.iload_n 2, 1) := by decide +kernel
theorem dX5_write_29 : decode cX5_write 29 = .ok (.iaload, 1) := by decide +kernel
theorem dX5_write_30 : decode cX5_write 30 = .ok (.iastore, 1) := by decide +kernel
theorem dX5_write_31 : decode cX5_write 31 = .ok (.iinc 2 1, 3) := by decide +kernel
theorem dX5_write_34 : decode cX5_write 34 = .ok (.goto (-23), 3) := by decide +kernel
theorem dX5_write_37 : decode cX5_write 37 = .ok (.aload_n 0, 1) := by decide +kernel
theorem dX5_write_38 : decode cX5_write 38 = .ok (.dup, 1) := by decide +kernel
theorem dX5_write_39 : decode cX5_write 39 = .ok (.getfield 81, 3) := by decide +kernel
theorem dX5_write_42 : decode cX5_write 42 = .ok (.iconst 1, 1) := by decide +kernel
theorem dX5_write_43 : decode cX5_write 43 = .ok (.isub, 1) := by decide +kernel
theorem dX5_write_44 : decode cX5_write 44 = .ok (.putfield 81, 3) := by decide +kernel
theorem dX5_write_47 : decode cX5_write 47 = .ok (.aload_n 0, 1) := by decide +kernel
theorem dX5_write_48 : decode cX5_write 48 = .ok (.getfield 20, 3) := by decide +kernel
theorem dX5_write_51 : decode cX5_write 51 = .ok (.aload_n 0, 1) := by decide +kernel
theorem dX5_write_52 : decode cX5_write 52 = .ok (.getfield 81, 3) := by decide +kernel
theorem dX5_write_55 : decode cX5_write 55 = .ok (.iload_n 1, 1) := by decide +kernel
theorem dX5_write_56 : decode cX5_write 56 = .ok (.iastore, 1) := by decide +kernel
theorem dX5_write_57 : decode cX5_write 57 = .ok (.aload_n 0, 1) := by decide +kernel
theorem dX5_write_58 : decode cX5_write 58 = .ok (.dup, 1) := by decide +kernel
theorem dX5_write_59 : decode cX5_write 59 = .ok (.getfield 81, 3) := by decide +kernel
theorem dX5_write_62 : decode cX5_write 62 = .ok (.iconst 1, 1) := by decide +kernel
theorem dX5_write_63 : decode cX5_write 63 = .ok (.iadd, 1) := by decide +kernel
theorem dX5_write_64 : decode cX5_write 64 = .ok (.putfield 81, 3) := by decide +kernel
theorem dX5_write_67 : decode cX5_write 67 = .ok (.return_, 1) := by decide +kernel
theorem dX5_turnBy_0 : decode cX5_turnBy 0 = .ok (.aload_n 0, 1) := by decide +kernel
theorem dX5_turnBy_1 : decode cX5_turnBy 1 = .ok (.getfield 7, 3) := by decide +kernel
theorem dX5_turnBy_4 : decode cX5_turnBy 4 = .ok (.bipush 13, 2) := by decide +kernel
theorem dX5_turnBy_6 : decode cX5_turnBy 6 = .ok (.aload_n 0, 1) := by decide +kernel
theorem dX5_turnBy_7 : decode cX5_turnBy 7 = .ok (.getfield 7, 3) := by decide +kernel
theorem dX5_turnBy_10 : decode cX5_turnBy 10 = .ok (.bipush 13, 2) := by decide +kernel
theorem dX5_turnBy_12 : decode cX5_turnBy 12 = .ok (.iaload, 1) := by decide +kernel
theorem dX5_turnBy_13 : decode cX5_turnBy 13 = .ok (.iload_n 1, 1) := by decide +kernel
theorem dX5_turnBy_14 : decode cX5_turnBy 14 = .ok (.iadd, 1) := by decide +kernel
theorem dX5_turnBy_15 : decode cX5_turnBy 15 = .ok (.bipush 12, 2) := by decide +kernel
theorem dX5_turnBy_17 : decode cX5_turnBy 17 = .ok (.iadd, 1) := by decide +kernel
theorem dX5_turnBy_18 : decode cX5_turnBy 18 = .ok (.bipush 12, 2) := by decide +kernel
theorem dX5_turnBy_20 : decode cX5_turnBy 20 = .ok (.irem, 1) := by decide +kernel
theorem dX5_turnBy_21 : decode cX5_turnBy 21 = .ok (.iastore, 1) := by decide +kernel
theorem dX5_turnBy_22 : decode cX5_turnBy 22 = .ok (.return_, 1) := by decide +kernel
theorem dX5_turn_0 : decode cX5_turn 0 = .ok (.iload_n 1, 1) := by decide +kernel
theorem dX5_turn_1 : decode cX5_turn 1 = .ok (.bipush (-11), 2) := by decide +kernel
theorem dX5_turn_3 : decode cX5_turn 3 = .ok (.bipush 11, 2) := by decide +kernel
theorem dX5_turn_5 : decode cX5_turn 5 = .ok (.invokestatic 84, 3) := by decide +kernel
theorem dX5_turn_8 : decode cX5_turn 8 = .ok (.ifCond .eq 7, 3) := by decide +kernel
theorem dX5_turn_11 : decode cX5_turn 11 = .ok (.iload_n 1, 1) := by decide +kernel
theorem dX5_turn_12 : decode cX5_turn 12 = .ok (.ifCond .ne 6, 3) := by decide +kernel
theorem dX5_turn_15 : decode cX5_turn 15 = .ok (.bipush (-4), 2) := by decide +kernel
theorem dX5_turn_17 : decode cX5_turn 17 = .ok (.ireturn, 1) := by decide +kernel
theorem dX5_turn_18 : decode cX5_turn 18 = .ok (.iload_n 1, 1) := by decide +kernel
theorem dX5_turn_19 : decode cX5_turn 19 = .ok (.ifCond .ge 8, 3) := by decide +kernel
theorem dX5_turn_22 : decode cX5_turn 22 = .ok (.iload_n 1, 1) := by decide +kernel
theorem dX5_turn_23 : decode cX5_turn 23 = .ok (.ineg, 1) := by decide +kernel
theorem dX5_turn_24 : decode cX5_turn 24 = .ok (.goto 4, 3) := by decide +kernel
theorem dX5_turn_27 : decode cX5_turn 27 = .ok (.iload_n 1, 1) := by decide +kernel
theorem dX5_turn_28 : decode cX5_turn 28 = .ok (.istore_n 2, 1) := by decide +kernel
theorem dX5_turn_29 : decode cX5_turn 29 = .ok (.iconst 0, 1) := by decide +kernel
theorem dX5_turn_30 : decode cX5_turn 30 = .ok (.istore_n 3, 1) := by decide +kernel
theorem dX5_turn_31 : decode cX5_turn 31 = .ok (.iload_n 3, 1) := by decide +kernel
theorem dX5_turn_32 : decode cX5_turn 32 = .ok (.iload_n 2, 1) := by decide +kernel
theorem dX5_turn_33 : decode cX5_turn 33 = .ok (.if_icmp .ge 45, 3) := by decide +kernel
theorem dX5_turn_36 : decode cX5_turn 36 = .ok (.aload_n 0, 1) := by decide +kernel
theorem dX5_turn_37 : decode cX5_turn 37 = .ok (.iload_n 1, 1) := by decide +kernel
theorem dX5_turn_38 : decode cX5_turn 38 = .ok (.ifCond .ge 7, 3) := by decide +kernel
theorem dX5_turn_41 : decode cX5_turn 41 = .ok (.iconst (-1), 1) := by decide +kernel
theorem dX5_turn_42 : decode cX5_turn 42 = .ok (.goto 4, 3) := by decide +kernel
theorem dX5_turn_45 : decode cX5_turn 45 = .ok (.iconst 1, 1) := by decide +kernel
theorem dX5_turn_46 : decode cX5_turn 46 = .ok (.invokevirtual 125, 3) := by decide +kernel
theorem dX5_turn_49 : decode cX5_turn 49 = .ok (.aload_n 0, 1) := by decide +kernel
theorem dX5_turn_50 : decode cX5_turn 50 = .ok (.iload_n 1, 1) := by decide +kernel
theorem dX5_turn_51 : decode cX5_turn 51 = .ok (.ifCond .ge 7, 3) := by decide +kernel
theorem dX5_turn_54 : decode cX5_turn 54 = .ok (.iconst 1, 1) := by decide +kernel
theorem dX5_turn_55 : decode cX5_turn 55 = .ok (.goto 4, 3) := by decide +kernel
theorem dX5_turn_58 : decode cX5_turn 58 = .ok (.iconst 0, 1) := by decide +kernel
theorem dX5_turn_59 : decode cX5_turn 59 = .ok (.invokevirtual 129, 3) := by decide +kernel
theorem dX5_turn_62 : decode cX5_turn 62 = .ok (.aload_n 0, 1) := by decide +kernel
theorem dX5_turn_63 : decode cX5_turn 63 = .ok (.dup, 1) := by decide +kernel
theorem dX5_turn_64 : decode cX5_turn 64 = .ok (.getfield 132, 3) := by decide +kernel
theorem dX5_turn_67 : decode cX5_turn 67 = .ok (.iconst 1, 1) := by decide +kernel
theorem dX5_turn_68 : decode cX5_turn 68 = .ok (.iadd, 1) := by decide +kernel
theorem dX5_turn_69 : decode cX5_turn 69 = .ok (.putfield 132, 3) := by decide +kernel
theorem dX5_turn_72 : decode cX5_turn 72 = .ok (.iinc 3 1, 3) := by decide +kernel
theorem dX5_turn_75 : decode cX5_turn 75 = .ok (.goto (-44), 3) := by decide +kernel
theorem dX5_turn_78 : decode cX5_turn 78 = .ok (.aload_n 0, 1) := by decide +kernel
theorem dX5_turn_79 : decode cX5_turn 79 = .ok (.getfield 7, 3) := by decide +kernel
theorem dX5_turn_82 : decode cX5_turn 82 = .ok (.bipush 13, 2) := by decide +kernel
theorem dX5_turn_84 : decode cX5_turn 84 = .ok (.iaload, 1) := by decide +kernel
theorem dX5_turn_85 : decode cX5_turn 85 = .ok (.ireturn, 1) := by decide +kernel
theorem dX5_goIn_0 : decode cX5_goIn 0 = .ok (.aload_n 0, 1) := by decide +kernel
theorem dX5_goIn_1 : decode cX5_goIn 1 = .ok (.iload_n 1, 1) := by decide +kernel
theorem dX5_goIn_2 : decode cX5_goIn 2 = .ok (.invokevirtual 122, 3) := by decide +kernel
theorem dX5_goIn_5 : decode cX5_goIn 5 = .ok (.istore_n 3, 1) := by decide +kernel
theorem dX5_goIn_6 : decode cX5_goIn 6 = .ok (.iconst 0, 1) := by decide +kernel
theorem dX5_goIn_7 : decode cX5_goIn 7 = .ok (.istore 4, 2) := by decide +kernel
theorem dX5_goIn_9 : decode cX5_goIn 9 = .ok (.iload 4, 2) := by decide +kernel
theorem dX5_goIn_11 : decode cX5_goIn 11 = .ok (.iload_n 2, 1) := by decide +kernel
theorem dX5_goIn_12 : decode cX5_goIn 12 = .ok (.if_icmp .ge 40, 3) := by decide +kernel
theorem dX5_goIn_15 : decode cX5_goIn 15 = .ok (.aload_n 0, 1) := by decide +kernel
theorem dX5_goIn_16 : decode cX5_goIn 16 = .ok (.iload_n 3, 1) := by decide +kernel
theorem dX5_goIn_17 : decode cX5_goIn 17 = .ok (.iconst 0, 1) := by decide +kernel
theorem dX5_goIn_18 : decode cX5_goIn 18 = .ok (.invokevirtual 113, 3) := by decide +kernel
theorem dX5_goIn_21 : decode cX5_goIn 21 = .ok (.istore 5, 2) := by decide +kernel
theorem dX5_goIn_23 : decode cX5_goIn 23 = .ok (.aload_n 0, 1) := by decide +kernel
theorem dX5_goIn_24 : decode cX5_goIn 24 = .ok (.bipush 12, 2) := by decide +kernel
theorem dX5_goIn_26 : decode cX5_goIn 26 = .ok (.iload_n 1, 1) := by decide +kernel
theorem dX5_goIn_27 : decode cX5_goIn 27 = .ok (.ifCond .ne 7, 3) := by decide +kernel
theorem dX5_goIn_30 : decode cX5_goIn 30 = .ok (.iconst 0, 1) := by decide +kernel
theorem dX5_goIn_31 : decode cX5_goIn 31 = .ok (.goto 10, 3) := by decide +kernel
theorem dX5_goIn_34 : decode cX5_goIn 34 = .ok (.aload_n 0, 1) := by decide +kernel
theorem dX5_goIn_35 : decode cX5_goIn 35 = .ok (.getfield 7, 3) := by decide +kernel
theorem dX5_goIn_38 : decode cX5_goIn 38 = .ok (.bipush 43, 2) := by decide +kernel
theorem dX5_goIn_40 : decode cX5_goIn 40 = .ok (.iaload, 1) := by decide +kernel
theorem dX5_goIn_41 : decode cX5_goIn 41 = .ok (.iload 5, 2) := by decide +kernel
theorem dX5_goIn_43 : decode cX5_goIn 43 = .ok (.invokevirtual 106, 3) := by decide +kernel
theorem dX5_goIn_46 : decode cX5_goIn 46 = .ok (.iinc 4 1, 3) := by decide +kernel
theorem dX5_goIn_49 : decode cX5_goIn 49 = .ok (.goto (-40), 3) := by decide +kernel
theorem dX5_goIn_52 : decode cX5_goIn 52 = .ok (.return_, 1) := by decide +kernel
theorem dX5_goOut_0 : decode cX5_goOut 0 = .ok (.aload_n 0, 1) := by decide +kernel
theorem dX5_goOut_1 : decode cX5_goOut 1 = .ok (.iload_n 1, 1) := by decide +kernel
theorem dX5_goOut_2 : decode cX5_goOut 2 = .ok (.invokevirtual 122, 3) := by decide +kernel
theorem dX5_goOut_5 : decode cX5_goOut 5 = .ok (.istore_n 3, 1) := by decide +kernel
theorem dX5_goOut_6 : decode cX5_goOut 6 = .ok (.iconst 0, 1) := by decide +kernel
theorem dX5_goOut_7 : decode cX5_goOut 7 = .ok (.istore 4, 2) := by decide +kernel
theorem dX5_goOut_9 : decode cX5_goOut 9 = .ok (.iload 4, 2) := by decide +kernel
theorem dX5_goOut_11 : decode cX5_goOut 11 = .ok (.iload_n 2, 1) := by decide +kernel
theorem dX5_goOut_12 : decode cX5_goOut 12 = .ok (.if_icmp .ge 51, 3) := by decide +kernel
theorem dX5_goOut_15 : decode cX5_goOut 15 = .ok (.aload_n 0, 1) := by decide +kernel
theorem dX5_goOut_16 : decode cX5_goOut 16 = .ok (.bipush 12, 2) := by decide +kernel
theorem dX5_goOut_18 : decode cX5_goOut 18 = .ok (.iload_n 1, 1) := by decide +kernel
theorem dX5_goOut_19 : decode cX5_goOut 19 = .ok (.ifCond .ne 12, 3) := by decide +kernel
theorem dX5_goOut_22 : decode cX5_goOut 22 = .ok (.iload_n 2, 1) := by decide +kernel
theorem dX5_goOut_23 : decode cX5_goOut 23 = .ok (.iconst 1, 1) := by decide +kernel
theorem dX5_goOut_24 : decode cX5_goOut 24 = .ok (.isub, 1) := by decide +kernel
theorem dX5_goOut_25 : decode cX5_goOut 25 = .ok (.iload 4, 2) := by decide +kernel
theorem dX5_goOut_27 : decode cX5_goOut 27 = .ok (.isub, 1) := by decide +kernel
theorem dX5_goOut_28 : decode cX5_goOut 28 = .ok (.goto 15, 3) := by decide +kernel
theorem dX5_goOut_31 : decode cX5_goOut 31 = .ok (.aload_n 0, 1) := by decide +kernel
theorem dX5_goOut_32 : decode cX5_goOut 32 = .ok (.getfield 7, 3) := by decide +kernel
theorem dX5_goOut_35 : decode cX5_goOut 35 = .ok (.bipush 43, 2) := by decide +kernel
theorem dX5_goOut_37 : decode cX5_goOut 37 = .ok (.iaload, 1) := by decide +kernel
theorem dX5_goOut_38 : decode cX5_goOut 38 = .ok (.iload_n 2, 1) := by decide +kernel
theorem dX5_goOut_39 : decode cX5_goOut 39 = .ok (.isub, 1) := by decide +kernel
theorem dX5_goOut_40 : decode cX5_goOut 40 = .ok (.iload 4, 2) := by decide +kernel
theorem dX5_goOut_42 : decode cX5_goOut 42 = .ok (.iadd, 1) := by decide +kernel
theorem dX5_goOut_43 : decode cX5_goOut 43 = .ok (.invokevirtual 113, 3) := by decide +kernel
theorem dX5_goOut_46 : decode cX5_goOut 46 = .ok (.istore 5, 2) := by decide +kernel
theorem dX5_goOut_48 : decode cX5_goOut 48 = .ok (.aload_n 0, 1) := by decide +kernel
theorem dX5_goOut_49 : decode cX5_goOut 49 = .ok (.iload_n 3, 1) := by decide +kernel
theorem dX5_goOut_50 : decode cX5_goOut 50 = .ok (.iload 4, 2) := by decide +kernel
theorem dX5_goOut_52 : decode cX5_goOut 52 = .ok (.iload 5, 2) := by decide +kernel
theorem dX5_goOut_54 : decode cX5_goOut 54 = .ok (.invokevirtual 106, 3) := by decide +kernel
theorem dX5_goOut_57 : decode cX5_goOut 57 = .ok (.iinc 4 1, 3) := by decide +kernel
theorem dX5_goOut_60 : decode cX5_goOut 60 = .ok (.goto (-51), 3) := by decide +kernel
theorem dX5_goOut_63 : decode cX5_goOut 63 = .ok (.return_, 1) := by decide +kernel
theorem dX5_wrongMove_0 : decode cX5_wrongMove 0 = .ok (.iconst 0, 1) := by decide +kernel
theorem dX5_wrongMove_1 : decode cX5_wrongMove 1 = .ok (.istore 5, 2) := by decide +kernel
theorem dX5_wrongMove_3 : decode cX5_wrongMove 3 = .ok (.iconst 0, 1) := by decide +kernel
theorem dX5_wrongMove_4 : decode cX5_wrongMove 4 = .ok (.istore 6, 2) := by decide +kernel
theorem dX5_wrongMove_6 : decode cX5_wrongMove 6 = .ok (.iload_n 2, 1) := by decide +kernel
theorem dX5_wrongMove_7 : decode cX5_wrongMove 7 = .ok (.istore 7, 2) := by decide +kernel
theorem dX5_wrongMove_9 : decode cX5_wrongMove 9 = .ok (.iload 7, 2) := by decide +kernel
theorem dX5_wrongMove_11 : decode cX5_wrongMove 11 = .ok (.iload_n 2, 1) := by decide +kernel
theorem dX5_wrongMove_12 : decode cX5_wrongMove 12 = .ok (.iload_n 3, 1) := by decide +kernel
theorem dX5_wrongMove_13 : decode cX5_wrongMove 13 = .ok (.iadd, 1) := by decide +kernel
theorem dX5_wrongMove_14 : decode cX5_wrongMove 14 = .ok (.if_icmp .ge 63, 3) := by decide +kernel
theorem dX5_wrongMove_17 : decode cX5_wrongMove 17 = .ok (.aload_n 0, 1) := by decide +kernel
theorem dX5_wrongMove_18 : decode cX5_wrongMove 18 = .ok (.getfield 7, 3) := by decide +kernel
theorem dX5_wrongMove_21 : decode cX5_wrongMove 21 = .ok (.aload_n 0, 1) := by decide +kernel
theorem dX5_wrongMove_22 : decode cX5_wrongMove 22 = .ok (.iload_n 1, 1) := by decide +kernel
theorem dX5_wrongMove_23 : decode cX5_wrongMove 23 = .ok (.iload 7, 2) := by decide +kernel
theorem dX5_wrongMove_25 : decode cX5_wrongMove 25 = .ok (.invokevirtual 88, 3) := by decide +kernel
theorem dX5_wrongMove_28 : decode cX5_wrongMove 28 = .ok (.iaload, 1) := by decide +kernel
theorem dX5_wrongMove_29 : decode cX5_wrongMove 29 = .ok (.istore 8, 2) := by decide +kernel
theorem dX5_wrongMove_31 : decode cX5_wrongMove 31 = .ok (.iload 5, 2) := by decide +kernel
theorem dX5_wrongMove_33 : decode cX5_wrongMove 33 = .ok (.aload_n 0, 1) := by decide +kernel
theorem dX5_wrongMove_34 : decode cX5_wrongMove 34 = .ok (.getfield 7, 3) := by decide +kernel
theorem dX5_wrongMove_37 : decode cX5_wrongMove 37 = .ok (.bipush 15, 2) := by decide +kernel
theorem dX5_wrongMove_39 : decode cX5_wrongMove 39 = .ok (.iload 8, 2) := by decide +kernel
theorem dX5_wrongMove_41 : decode cX5_wrongMove 41 = .ok (.iadd, 1) := by decide +kernel
theorem dX5_wrongMove_42 : decode cX5_wrongMove 42 = .ok (.iaload, 1) := by decide +kernel
theorem dX5_wrongMove_43 : decode cX5_wrongMove 43 = .ok (.iadd, 1) := by decide +kernel
theorem dX5_wrongMove_44 : decode cX5_wrongMove 44 = .ok (.istore 5, 2) := by decide +kernel
theorem dX5_wrongMove_46 : decode cX5_wrongMove 46 = .ok (.iload 6, 2) := by decide +kernel
theorem dX5_wrongMove_48 : decode cX5_wrongMove 48 = .ok (.ifCond .ne 16, 3) := by decide +kernel
theorem dX5_wrongMove_51 : decode cX5_wrongMove 51 = .ok (.aload_n 0, 1) := by decide +kernel
theorem dX5_wrongMove_52 : decode cX5_wrongMove 52 = .ok (.getfield 7, 3) := by decide +kernel
theorem dX5_wrongMove_55 : decode cX5_wrongMove 55 = .ok (.bipush 23, 2) := by decide +kernel
theorem dX5_wrongMove_57 : decode cX5_wrongMove 57 = .ok (.iload 8, 2) := by decide +kernel
theorem dX5_wrongMove_59 : decode cX5_wrongMove 59 = .ok (.iadd, 1) := by decide +kernel
theorem dX5_wrongMove_60 : decode cX5_wrongMove 60 = .ok (.iaload, 1) := by decide +kernel
theorem dX5_wrongMove_61 : decode cX5_wrongMove 61 = .ok (.ifCond .ne 7, 3) := by decide +kernel
theorem dX5_wrongMove_64 : decode cX5_wrongMove 64 = .ok (.iconst 1, 1) := by decide +kernel
theorem dX5_wrongMove_65 : decode cX5_wrongMove 65 = .ok (.goto 4, 3) := by decide +kernel
theorem dX5_wrongMove_68 : decode cX5_wrongMove 68 = .ok (.iconst 0, 1) := by decide +kernel
theorem dX5_wrongMove_69 : decode cX5_wrongMove 69 = .ok (.istore 6, 2) := by decide +kernel
theorem dX5_wrongMove_71 : decode cX5_wrongMove 71 = .ok (.iinc 7 1, 3) := by decide +kernel
theorem dX5_wrongMove_74 : decode cX5_wrongMove 74 = .ok (.goto (-65), 3) := by decide +kernel
theorem dX5_wrongMove_77 : decode cX5_wrongMove 77 = .ok (.iload 6, 2) := by decide +kernel
theorem dX5_wrongMove_79 : decode cX5_wrongMove 79 = .ok (.ifCond .ne 8, 3) := by decide +kernel
theorem dX5_wrongMove_82 : decode cX5_wrongMove 82 = .ok (.bipush (-7), 2) := by decide +kernel
theorem dX5_wrongMove_84 : decode cX5_wrongMove 84 = .ok (.goto 30, 3) := by decide +kernel
theorem dX5_wrongMove_87 : decode cX5_wrongMove 87 = .ok (.aload_n 0, 1) := by decide +kernel
theorem dX5_wrongMove_88 : decode cX5_wrongMove 88 = .ok (.iload 4, 2) := by decide +kernel
theorem dX5_wrongMove_90 : decode cX5_wrongMove 90 = .ok (.invokevirtual 96, 3) := by decide +kernel
theorem dX5_wrongMove_93 : decode cX5_wrongMove 93 = .ok (.iload 5, 2) := by decide +kernel
theorem dX5_wrongMove_95 : decode cX5_wrongMove 95 = .ok (.iadd, 1) := by decide +kernel
theorem dX5_wrongMove_96 : decode cX5_wrongMove 96 = .ok (.aload_n 0, 1) := by decide +kernel
theorem dX5_wrongMove_97 : decode cX5_wrongMove 97 = .ok (.getfield 7, 3) := by decide +kernel
theorem dX5_wrongMove_100 : decode cX5_wrongMove 100 = .ok (.iconst 0, 1) := by decide +kernel
theorem dX5_wrongMove_101 : decode cX5_wrongMove 101 = .ok (.iload 4, 2) := by decide +kernel
theorem dX5_wrongMove_103 : decode cX5_wrongMove 103 = .ok (.iadd, 1) := by decide +kernel
theorem dX5_wrongMove_104 : decode cX5_wrongMove 104 = .ok (.iaload, 1) := by decide +kernel
theorem dX5_wrongMove_105 : decode cX5_wrongMove 105 = .ok (.if_icmp .le 8, 3) := by decide +kernel
theorem dX5_wrongMove_108 : decode cX5_wrongMove 108 = .ok (.bipush (-8), 2) := by decide +kernel
theorem dX5_wrongMove_110 : decode cX5_wrongMove 110 = .ok (.goto 4, 3) := by decide +kernel
theorem dX5_wrongMove_113 : decode cX5_wrongMove 113 = .ok (.iconst 0, 1) := by decide +kernel
theorem dX5_wrongMove_114 : decode cX5_wrongMove 114 = .ok (.ireturn, 1) := by decide +kernel
theorem dX5_moveIn_0 : decode cX5_moveIn 0 = .ok (.iload_n 1, 1) := by decide +kernel
theorem dX5_moveIn_1 : decode cX5_moveIn 1 = .ok (.invokestatic 119, 3) := by decide +kernel
theorem dX5_moveIn_4 : decode cX5_moveIn 4 = .ok (.ifCond .eq 8, 3) := by decide +kernel
theorem dX5_moveIn_7 : decode cX5_moveIn 7 = .ok (.iload_n 2, 1) := by decide +kernel
theorem dX5_moveIn_8 : decode cX5_moveIn 8 = .ok (.iconst 1, 1) := by decide +kernel
theorem dX5_moveIn_9 : decode cX5_moveIn 9 = .ok (.if_icmp .ge 6, 3) := by decide +kernel
theorem dX5_moveIn_12 : decode cX5_moveIn 12 = .ok (.bipush (-4), 2) := by decide +kernel
theorem dX5_moveIn_14 : decode cX5_moveIn 14 = .ok (.ireturn, 1) := by decide +kernel
theorem dX5_moveIn_15 : decode cX5_moveIn 15 = .ok (.aload_n 0, 1) := by decide +kernel
theorem dX5_moveIn_16 : decode cX5_moveIn 16 = .ok (.iload_n 1, 1) := by decide +kernel
theorem dX5_moveIn_17 : decode cX5_moveIn 17 = .ok (.invokevirtual 122, 3) := by decide +kernel
theorem dX5_moveIn_20 : decode cX5_moveIn 20 = .ok (.istore_n 3, 1) := by decide +kernel
theorem dX5_moveIn_21 : decode cX5_moveIn 21 = .ok (.aload_n 0, 1) := by decide +kernel
theorem dX5_moveIn_22 : decode cX5_moveIn 22 = .ok (.iload_n 3, 1) := by decide +kernel
theorem dX5_moveIn_23 : decode cX5_moveIn 23 = .ok (.invokevirtual 103, 3) := by decide +kernel
theorem dX5_moveIn_26 : decode cX5_moveIn 26 = .ok (.ifCond .ne 6, 3) := by decide +kernel
theorem dX5_moveIn_29 : decode cX5_moveIn 29 = .ok (.bipush (-2), 2) := by decide +kernel
theorem dX5_moveIn_31 : decode cX5_moveIn 31 = .ok (.ireturn, 1) := by decide +kernel
theorem dX5_moveIn_32 : decode cX5_moveIn 32 = .ok (.aload_n 0, 1) := by decide +kernel
theorem dX5_moveIn_33 : decode cX5_moveIn 33 = .ok (.getfield 7, 3) := by decide +kernel
theorem dX5_moveIn_36 : decode cX5_moveIn 36 = .ok (.bipush 31, 2) := by decide +kernel
theorem dX5_moveIn_38 : decode cX5_moveIn 38 = .ok (.iload_n 3, 1) := by decide +kernel
theorem dX5_moveIn_39 : decode cX5_moveIn 39 = .ok (.iadd, 1) := by decide +kernel
theorem dX5_moveIn_40 : decode cX5_moveIn 40 = .ok (.iaload, 1) := by decide +kernel
theorem dX5_moveIn_41 : decode cX5_moveIn 41 = .ok (.iload_n 2, 1) := by decide +kernel
theorem dX5_moveIn_42 : decode cX5_moveIn 42 = .ok (.if_icmp .ge 6, 3) := by decide +kernel
theorem dX5_moveIn_45 : decode cX5_moveIn 45 = .ok (.bipush (-6), 2) := by decide +kernel
theorem dX5_moveIn_47 : decode cX5_moveIn 47 = .ok (.ireturn, 1) := by decide +kernel
theorem dX5_moveIn_48 : decode cX5_moveIn 48 = .ok (.aload_n 0, 1) := by decide +kernel
theorem dX5_moveIn_49 : decode cX5_moveIn 49 = .ok (.iload_n 3, 1) := by decide +kernel
theorem dX5_moveIn_50 : decode cX5_moveIn 50 = .ok (.iconst 0, 1) := by decide +kernel
theorem dX5_moveIn_51 : decode cX5_moveIn 51 = .ok (.iload_n 2, 1) := by decide +kernel
theorem dX5_moveIn_52 : decode cX5_moveIn 52 = .ok (.bipush 12, 2) := by decide +kernel
theorem dX5_moveIn_54 : decode cX5_moveIn 54 = .ok (.invokevirtual 135, 3) := by decide +kernel
theorem dX5_moveIn_57 : decode cX5_moveIn 57 = .ok (.istore 4, 2) := by decide +kernel
theorem dX5_moveIn_59 : decode cX5_moveIn 59 = .ok (.iload 4, 2) := by decide +kernel
theorem dX5_moveIn_61 : decode cX5_moveIn 61 = .ok (.ifCond .eq 6, 3) := by decide +kernel
theorem dX5_moveIn_64 : decode cX5_moveIn 64 = .ok (.iload 4, 2) := by decide +kernel
theorem dX5_moveIn_66 : decode cX5_moveIn 66 = .ok (.ireturn, 1) := by decide +kernel
theorem dX5_moveIn_67 : decode cX5_moveIn 67 = .ok (.aload_n 0, 1) := by decide +kernel
theorem dX5_moveIn_68 : decode cX5_moveIn 68 = .ok (.iload_n 1, 1) := by decide +kernel
theorem dX5_moveIn_69 : decode cX5_moveIn 69 = .ok (.iload_n 2, 1) := by decide +kernel
theorem dX5_moveIn_70 : decode cX5_moveIn 70 = .ok (.invokevirtual 139, 3) := by decide +kernel
theorem dX5_moveIn_73 : decode cX5_moveIn 73 = .ok (.aload_n 0, 1) := by decide +kernel
theorem dX5_moveIn_74 : decode cX5_moveIn 74 = .ok (.bipush 10, 2) := by decide +kernel
theorem dX5_moveIn_76 : decode cX5_moveIn 76 = .ok (.bipush 10, 2) := by decide +kernel
theorem dX5_moveIn_78 : decode cX5_moveIn 78 = .ok (.iload_n 1, 1) := by decide +kernel
theorem dX5_moveIn_79 : decode cX5_moveIn 79 = .ok (.imul, 1) := by decide +kernel
theorem dX5_moveIn_80 : decode cX5_moveIn 80 = .ok (.iadd, 1) := by decide +kernel
theorem dX5_moveIn_81 : decode cX5_moveIn 81 = .ok (.iload_n 2, 1) := by decide +kernel
theorem dX5_moveIn_82 : decode cX5_moveIn 82 = .ok (.iadd, 1) := by decide +kernel
theorem dX5_moveIn_83 : decode cX5_moveIn 83 = .ok (.invokevirtual 129, 3) := by decide +kernel
theorem dX5_moveIn_86 : decode cX5_moveIn 86 = .ok (.aload_n 0, 1) := by decide +kernel
theorem dX5_moveIn_87 : decode cX5_moveIn 87 = .ok (.getfield 7, 3) := by decide +kernel
theorem dX5_moveIn_90 : decode cX5_moveIn 90 = .ok (.bipush 43, 2) := by decide +kernel
theorem dX5_moveIn_92 : decode cX5_moveIn 92 = .ok (.iaload, 1) := by decide +kernel
theorem dX5_moveIn_93 : decode cX5_moveIn 93 = .ok (.ireturn, 1) := by decide +kernel
theorem dX5_moveOut_0 : decode cX5_moveOut 0 = .ok (.iload_n 1, 1) := by decide +kernel
theorem dX5_moveOut_1 : decode cX5_moveOut 1 = .ok (.invokestatic 119, 3) := by decide +kernel
theorem dX5_moveOut_4 : decode cX5_moveOut 4 = .ok (.ifCond .eq 8, 3) := by decide +kernel
theorem dX5_moveOut_7 : decode cX5_moveOut 7 = .ok (.iload_n 2, 1) := by decide +kernel
theorem dX5_moveOut_8 : decode cX5_moveOut 8 = .ok (.iconst 1, 1) := by decide +kernel
theorem dX5_moveOut_9 : decode cX5_moveOut 9 = .ok (.if_icmp .ge 6, 3) := by decide +kernel
theorem dX5_moveOut_12 : decode cX5_moveOut 12 = .ok (.bipush (-4), 2) := by decide +kernel
theorem dX5_moveOut_14 : decode cX5_moveOut 14 = .ok (.ireturn, 1) := by decide +kernel
theorem dX5_moveOut_15 : decode cX5_moveOut 15 = .ok (.aload_n 0, 1) := by decide +kernel
theorem dX5_moveOut_16 : decode cX5_moveOut 16 = .ok (.iload_n 1, 1) := by decide +kernel
theorem dX5_moveOut_17 : decode cX5_moveOut 17 = .ok (.invokevirtual 122, 3) := by decide +kernel
theorem dX5_moveOut_20 : decode cX5_moveOut 20 = .ok (.istore_n 3, 1) := by decide +kernel
theorem dX5_moveOut_21 : decode cX5_moveOut 21 = .ok (.aload_n 0, 1) := by decide +kernel
theorem dX5_moveOut_22 : decode cX5_moveOut 22 = .ok (.iload_n 3, 1) := by decide +kernel
theorem dX5_moveOut_23 : decode cX5_moveOut 23 = .ok (.invokevirtual 103, 3) := by decide +kernel
theorem dX5_moveOut_26 : decode cX5_moveOut 26 = .ok (.ifCond .ne 6, 3) := by decide +kernel
theorem dX5_moveOut_29 : decode cX5_moveOut 29 = .ok (.bipush (-2), 2) := by decide +kernel
theorem dX5_moveOut_31 : decode cX5_moveOut 31 = .ok (.ireturn, 1) := by decide +kernel
theorem dX5_moveOut_32 : decode cX5_moveOut 32 = .ok (.aload_n 0, 1) := by decide +kernel
theorem dX5_moveOut_33 : decode cX5_moveOut 33 = .ok (.getfield 7, 3) := by decide +kernel
theorem dX5_moveOut_36 : decode cX5_moveOut 36 = .ok (.bipush 43, 2) := by decide +kernel
theorem dX5_moveOut_38 : decode cX5_moveOut 38 = .ok (.iaload, 1) := by decide +kernel
theorem dX5_moveOut_39 : decode cX5_moveOut 39 = .ok (.istore 4, 2) := by decide +kernel
theorem dX5_moveOut_41 : decode cX5_moveOut 41 = .ok (.iload 4, 2) := by decide +kernel
theorem dX5_moveOut_43 : decode cX5_moveOut 43 = .ok (.iload_n 2, 1) := by decide +kernel
theorem dX5_moveOut_44 : decode cX5_moveOut 44 = .ok (.if_icmp .ge 6, 3) := by decide +kernel
theorem dX5_moveOut_47 : decode cX5_moveOut 47 = .ok (.bipush (-6), 2) := by decide +kernel
theorem dX5_moveOut_49 : decode cX5_moveOut 49 = .ok (.ireturn, 1) := by decide +kernel
theorem dX5_moveOut_50 : decode cX5_moveOut 50 = .ok (.aload_n 0, 1) := by decide +kernel
theorem dX5_moveOut_51 : decode cX5_moveOut 51 = .ok (.bipush 12, 2) := by decide +kernel
theorem dX5_moveOut_53 : decode cX5_moveOut 53 = .ok (.iload_n 1, 1) := by decide +kernel
theorem dX5_moveOut_54 : decode cX5_moveOut 54 = .ok (.ifCond .ne 7, 3) := by decide +kernel
theorem dX5_moveOut_57 : decode cX5_moveOut 57 = .ok (.iconst 0, 1) := by decide +kernel
theorem dX5_moveOut_58 : decode cX5_moveOut 58 = .ok (.goto 7, 3) := by decide +kernel
theorem dX5_moveOut_61 : decode cX5_moveOut 61 = .ok (.iload 4, 2) := by decide +kernel
theorem dX5_moveOut_63 : decode cX5_moveOut 63 = .ok (.iload_n 2, 1) := by decide +kernel
theorem dX5_moveOut_64 : decode cX5_moveOut 64 = .ok (.isub, 1) := by decide +kernel
theorem dX5_moveOut_65 : decode cX5_moveOut 65 = .ok (.iload_n 2, 1) := by decide +kernel
theorem dX5_moveOut_66 : decode cX5_moveOut 66 = .ok (.iload_n 3, 1) := by decide +kernel
theorem dX5_moveOut_67 : decode cX5_moveOut 67 = .ok (.invokevirtual 135, 3) := by decide +kernel
theorem dX5_moveOut_70 : decode cX5_moveOut 70 = .ok (.istore 5, 2) := by decide +kernel
theorem dX5_moveOut_72 : decode cX5_moveOut 72 = .ok (.iload 5, 2) := by decide +kernel
theorem dX5_moveOut_74 : decode cX5_moveOut 74 = .ok (.ifCond .eq 6, 3) := by decide +kernel
theorem dX5_moveOut_77 : decode cX5_moveOut 77 = .ok (.iload 5, 2) := by decide +kernel
theorem dX5_moveOut_79 : decode cX5_moveOut 79 = .ok (.ireturn, 1) := by decide +kernel
theorem dX5_moveOut_80 : decode cX5_moveOut 80 = .ok (.aload_n 0, 1) := by decide +kernel
theorem dX5_moveOut_81 : decode cX5_moveOut 81 = .ok (.iload_n 1, 1) := by decide +kernel
theorem dX5_moveOut_82 : decode cX5_moveOut 82 = .ok (.iload_n 2, 1) := by decide +kernel
theorem dX5_moveOut_83 : decode cX5_moveOut 83 = .ok (.invokevirtual 143, 3) := by decide +kernel
theorem dX5_moveOut_86 : decode cX5_moveOut 86 = .ok (.aload_n 0, 1) := by decide +kernel
theorem dX5_moveOut_87 : decode cX5_moveOut 87 = .ok (.bipush 30, 2) := by decide +kernel
theorem dX5_moveOut_89 : decode cX5_moveOut 89 = .ok (.bipush 10, 2) := by decide +kernel
theorem dX5_moveOut_91 : decode cX5_moveOut 91 = .ok (.iload_n 1, 1) := by decide +kernel
theorem dX5_moveOut_92 : decode cX5_moveOut 92 = .ok (.imul, 1) := by decide +kernel
theorem dX5_moveOut_93 : decode cX5_moveOut 93 = .ok (.iadd, 1) := by decide +kernel
theorem dX5_moveOut_94 : decode cX5_moveOut 94 = .ok (.iload_n 2, 1) := by decide +kernel
theorem dX5_moveOut_95 : decode cX5_moveOut 95 = .ok (.iadd, 1) := by decide +kernel
theorem dX5_moveOut_96 : decode cX5_moveOut 96 = .ok (.invokevirtual 129, 3) := by decide +kernel
theorem dX5_moveOut_99 : decode cX5_moveOut 99 = .ok (.aload_n 0, 1) := by decide +kernel
theorem dX5_moveOut_100 : decode cX5_moveOut 100 = .ok (.getfield 7, 3) := by decide +kernel
theorem dX5_moveOut_103 : decode cX5_moveOut 103 = .ok (.bipush 31, 2) := by decide +kernel
theorem dX5_moveOut_105 : decode cX5_moveOut 105 = .ok (.iload_n 3, 1) := by decide +kernel
theorem dX5_moveOut_106 : decode cX5_moveOut 106 = .ok (.iadd, 1) := by decide +kernel
theorem dX5_moveOut_107 : decode cX5_moveOut 107 = .ok (.iaload, 1) := by decide +kernel
theorem dX5_moveOut_108 : decode cX5_moveOut 108 = .ok (.ireturn, 1) := by decide +kernel
theorem dX5_turnsMade_0 : decode cX5_turnsMade 0 = .ok (.aload_n 0, 1) := by decide +kernel
theorem dX5_turnsMade_1 : decode cX5_turnsMade 1 = .ok (.getfield 132, 3) := by decide +kernel
theorem dX5_turnsMade_4 : decode cX5_turnsMade 4 = .ok (.ireturn, 1) := by decide +kernel
theorem dX5_undo_0 : decode cX5_undo 0 = .ok (.aload_n 0, 1) := by decide +kernel
theorem dX5_undo_1 : decode cX5_undo 1 = .ok (.getfield 81, 3) := by decide +kernel
theorem dX5_undo_4 : decode cX5_undo 4 = .ok (.ifCond .ne 6, 3) := by decide +kernel
theorem dX5_undo_7 : decode cX5_undo 7 = .ok (.bipush (-11), 2) := by decide +kernel
theorem dX5_undo_9 : decode cX5_undo 9 = .ok (.ireturn, 1) := by decide +kernel
theorem dX5_undo_10 : decode cX5_undo 10 = .ok (.aload_n 0, 1) := by decide +kernel
theorem dX5_undo_11 : decode cX5_undo 11 = .ok (.dup, 1) := by decide +kernel
theorem dX5_undo_12 : decode cX5_undo 12 = .ok (.getfield 81, 3) := by decide +kernel
theorem dX5_undo_15 : decode cX5_undo 15 = .ok (.iconst 1, 1) := by decide +kernel
theorem dX5_undo_16 : decode cX5_undo 16 = .ok (.isub, 1) := by decide +kernel
theorem dX5_undo_17 : decode cX5_undo 17 = .ok (.putfield 81, 3) := by decide +kernel
theorem dX5_undo_20 : decode cX5_undo 20 = .ok (.aload_n 0, 1) := by decide +kernel
theorem dX5_undo_21 : decode cX5_undo 21 = .ok (.getfield 20, 3) := by decide +kernel
theorem dX5_undo_24 : decode cX5_undo 24 = .ok (.aload_n 0, 1) := by decide +kernel
theorem dX5_undo_25 : decode cX5_undo 25 = .ok (.getfield 81, 3) := by decide +kernel
theorem dX5_undo_28 : decode cX5_undo 28 = .ok (.iaload, 1) := by decide +kernel
theorem dX5_undo_29 : decode cX5_undo 29 = .ok (.istore_n 1, 1) := by decide +kernel
theorem dX5_undo_30 : decode cX5_undo 30 = .ok (.iload_n 1, 1) := by decide +kernel
theorem dX5_undo_31 : decode cX5_undo 31 = .ok (.iconst 2, 1) := by decide +kernel
theorem dX5_undo_32 : decode cX5_undo 32 = .ok (.if_icmp .ge 19, 3) := by decide +kernel
theorem dX5_undo_35 : decode cX5_undo 35 = .ok (.aload_n 0, 1) := by decide +kernel
theorem dX5_undo_36 : decode cX5_undo 36 = .ok (.iload_n 1, 1) := by decide +kernel
theorem dX5_undo_37 : decode cX5_undo 37 = .ok (.ifCond .ne 7, 3) := by decide +kernel
theorem dX5_undo_40 : decode cX5_undo 40 = .ok (.iconst (-1), 1) := by decide +kernel
theorem dX5_undo_41 : decode cX5_undo 41 = .ok (.goto 4, 3) := by decide +kernel
theorem dX5_undo_44 : decode cX5_undo 44 = .ok (.iconst 1, 1) := by decide +kernel
theorem dX5_undo_45 : decode cX5_undo 45 = .ok (.invokevirtual 125, 3) := by decide +kernel
theorem dX5_undo_48 : decode cX5_undo 48 = .ok (.goto 40, 3) := by decide +kernel
theorem dX5_undo_51 : decode cX5_undo 51 = .ok (.iload_n 1, 1) := by decide +kernel
theorem dX5_undo_52 : decode cX5_undo 52 = .ok (.bipush 30, 2) := by decide +kernel
theorem dX5_undo_54 : decode cX5_undo 54 = .ok (.if_icmp .ge 20, 3) := by decide +kernel
theorem dX5_undo_57 : decode cX5_undo 57 = .ok (.aload_n 0, 1) := by decide +kernel
theorem dX5_undo_58 : decode cX5_undo 58 = .ok (.iload_n 1, 1) := by decide +kernel
theorem dX5_undo_59 : decode cX5_undo 59 = .ok (.bipush 10, 2) := by decide +kernel
theorem dX5_undo_61 : decode cX5_undo 61 = .ok (.idiv, 1) := by decide +kernel
theorem dX5_undo_62 : decode cX5_undo 62 = .ok (.iconst 1, 1) := by decide +kernel
theorem dX5_undo_63 : decode cX5_undo 63 = .ok (.isub, 1) := by decide +kernel
theorem dX5_undo_64 : decode cX5_undo 64 = .ok (.iload_n 1, 1) := by decide +kernel
theorem dX5_undo_65 : decode cX5_undo 65 = .ok (.bipush 10, 2) := by decide +kernel
theorem dX5_undo_67 : decode cX5_undo 67 = .ok (.irem, 1) := by decide +kernel
theorem dX5_undo_68 : decode cX5_undo 68 = .ok (.invokevirtual 143, 3) := by decide +kernel
theorem dX5_undo_71 : decode cX5_undo 71 = .ok (.goto 17, 3) := by decide +kernel
theorem dX5_undo_74 : decode cX5_undo 74 = .ok (.aload_n 0, 1) := by decide +kernel
theorem dX5_undo_75 : decode cX5_undo 75 = .ok (.iload_n 1, 1) := by decide +kernel
theorem dX5_undo_76 : decode cX5_undo 76 = .ok (.bipush 10, 2) := by decide +kernel
theorem dX5_undo_78 : decode cX5_undo 78 = .ok (.idiv, 1) := by decide +kernel
theorem dX5_undo_79 : decode cX5_undo 79 = .ok (.iconst 3, 1) := by decide +kernel
theorem dX5_undo_80 : decode cX5_undo 80 = .ok (.isub, 1) := by decide +kernel
theorem dX5_undo_81 : decode cX5_undo 81 = .ok (.iload_n 1, 1) := by decide +kernel
theorem dX5_undo_82 : decode cX5_undo 82 = .ok (.bipush 10, 2) := by decide +kernel
theorem dX5_undo_84 : decode cX5_undo 84 = .ok (.irem, 1) := by decide +kernel
theorem dX5_undo_85 : decode cX5_undo 85 = .ok (.invokevirtual 139, 3) := by decide +kernel
theorem dX5_undo_88 : decode cX5_undo 88 = .ok (.iload_n 1, 1) := by decide +kernel
theorem dX5_undo_89 : decode cX5_undo 89 = .ok (.ireturn, 1) := by decide +kernel
theorem dX5_log_0 : decode cX5_log 0 = .ok (.iload_n 1, 1) := by decide +kernel
theorem dX5_log_1 : decode cX5_log 1 = .ok (.iconst (-1), 1) := by decide +kernel
theorem dX5_log_2 : decode cX5_log 2 = .ok (.if_icmp .ne 10, 3) := by decide +kernel
theorem dX5_log_5 : decode cX5_log 5 = .ok (.aload_n 0, 1) := by decide +kernel
theorem dX5_log_6 : decode cX5_log 6 = .ok (.getfield 81, 3) := by decide +kernel
theorem dX5_log_9 : decode cX5_log 9 = .ok (.goto 35, 3) := by decide +kernel
theorem dX5_log_12 : decode cX5_log 12 = .ok (.iload_n 1, 1) := by decide +kernel
theorem dX5_log_13 : decode cX5_log 13 = .ok (.iconst 0, 1) := by decide +kernel
theorem dX5_log_14 : decode cX5_log 14 = .ok (.aload_n 0, 1) := by decide +kernel
theorem dX5_log_15 : decode cX5_log 15 = .ok (.getfield 81, 3) := by decide +kernel
theorem dX5_log_18 : decode cX5_log 18 = .ok (.iconst 1, 1) := by decide +kernel
theorem dX5_log_19 : decode cX5_log 19 = .ok (.isub, 1) := by decide +kernel
theorem dX5_log_20 : decode cX5_log 20 = .ok (.invokestatic 84, 3) := by decide +kernel
theorem dX5_log_23 : decode cX5_log 23 = .ok (.ifCond .eq 19, 3) := by decide +kernel
theorem dX5_log_26 : decode cX5_log 26 = .ok (.aload_n 0, 1) := by decide +kernel
theorem dX5_log_27 : decode cX5_log 27 = .ok (.getfield 20, 3) := by decide +kernel
theorem dX5_log_30 : decode cX5_log 30 = .ok (.aload_n 0, 1) := by decide +kernel
theorem dX5_log_31 : decode cX5_log 31 = .ok (.getfield 81, 3) := by decide +kernel
theorem dX5_log_34 : decode cX5_log 34 = .ok (.iconst 1, 1) := by decide +kernel
theorem dX5_log_35 : decode cX5_log 35 = .ok (.isub, 1) := by decide +kernel
theorem dX5_log_36 : decode cX5_log 36 = .ok (.iload_n 1, 1) := by decide +kernel
theorem dX5_log_37 : decode cX5_log 37 = .ok (.isub, 1) := by decide +kernel
theorem dX5_log_38 : decode cX5_log 38 = .ok (.iaload, 1) := by decide +kernel
theorem dX5_log_39 : decode cX5_log 39 = .ok (.goto 5, 3) := by decide +kernel
theorem dX5_log_42 : decode cX5_log 42 = .ok (.bipush (-11), 2) := by decide +kernel
theorem dX5_log_44 : decode cX5_log 44 = .ok (.ireturn, 1) := by decide +kernel
theorem dX5_layOrders_0 : decode cX5_layOrders 0 = .ok (.aload_n 0, 1) := by decide +kernel
theorem dX5_layOrders_1 : decode cX5_layOrders 1 = .ok (.iconst 0, 1) := by decide +kernel
theorem dX5_layOrders_2 : decode cX5_layOrders 2 = .ok (.putfield 146, 3) := by decide +kernel
theorem dX5_layOrders_5 : decode cX5_layOrders 5 = .ok (.iload_n 1, 1) := by decide +kernel
theorem dX5_layOrders_6 : decode cX5_layOrders 6 = .ok (.iconst 1, 1) := by decide +kernel
theorem dX5_layOrders_7 : decode cX5_layOrders 7 = .ok (.if_icmp .ne 7, 3) := by decide +kernel
theorem dX5_layOrders_10 : decode cX5_layOrders 10 = .ok (.iconst 4, 1) := by decide +kernel
theorem dX5_layOrders_11 : decode cX5_layOrders 11 = .ok (.goto 15, 3) := by decide +kernel
theorem dX5_layOrders_14 : decode cX5_layOrders 14 = .ok (.iload_n 1, 1) := by decide +kernel
theorem dX5_layOrders_15 : decode cX5_layOrders 15 = .ok (.iconst 2, 1) := by decide +kernel
theorem dX5_layOrders_16 : decode cX5_layOrders 16 = .ok (.if_icmp .ne 8, 3) := by decide +kernel
theorem dX5_layOrders_19 : decode cX5_layOrders 19 = .ok (.bipush 16, 2) := by decide +kernel
theorem dX5_layOrders_21 : decode cX5_layOrders 21 = .ok (.goto 5, 3) := by decide +kernel
theorem dX5_layOrders_24 : decode cX5_layOrders 24 = .ok (.bipush 64, 2) := by decide +kernel
theorem dX5_layOrders_26 : decode cX5_layOrders 26 = .ok (.istore_n 2, 1) := by decide +kernel
theorem dX5_layOrders_27 : decode cX5_layOrders 27 = .ok (.iconst 0, 1) := by decide +kernel
theorem dX5_layOrders_28 : decode cX5_layOrders 28 = .ok (.istore_n 3, 1) := by decide +kernel
theorem dX5_layOrders_29 : decode cX5_layOrders 29 = .ok (.iload_n 3, 1) := by decide +kernel
theorem dX5_layOrders_30 : decode cX5_layOrders 30 = .ok (.iload_n 2, 1) := by decide +kernel
theorem dX5_layOrders_31 : decode cX5_layOrders 31 = .ok (.if_icmp .ge 119, 3) := by decide +kernel
theorem dX5_layOrders_34 : decode cX5_layOrders 34 = .ok (.iconst 0, 1) := by decide +kernel
theorem dX5_layOrders_35 : decode cX5_layOrders 35 = .ok (.istore 4, 2) := by decide +kernel
theorem dX5_layOrders_37 : decode cX5_layOrders 37 = .ok (.iconst 0, 1) := by decide +kernel
theorem dX5_layOrders_38 : decode cX5_layOrders 38 = .ok (.istore 5, 2) := by decide +kernel
theorem dX5_layOrders_40 : decode cX5_layOrders 40 = .ok (.iload_n 3, 1) := by decide +kernel
theorem dX5_layOrders_41 : decode cX5_layOrders 41 = .ok (.istore 6, 2) := by decide +kernel
theorem dX5_layOrders_43 : decode cX5_layOrders 43 = .ok (.iload 5, 2) := by decide +kernel
theorem dX5_layOrders_45 : decode cX5_layOrders 45 = .ok (.iload_n 1, 1) := by decide +kernel
theorem dX5_layOrders_46 : decode cX5_layOrders 46 = .ok (.if_icmp .ge 26, 3) := by decide +kernel
theorem dX5_layOrders_49 : decode cX5_layOrders 49 = .ok (.iload 4, 2) := by decide +kernel
theorem dX5_layOrders_51 : decode cX5_layOrders 51 = .ok (.iconst 1, 1) := by decide +kernel
theorem dX5_layOrders_52 : decode cX5_layOrders 52 = .ok (.iload 6, 2) := by decide +kernel
theorem dX5_layOrders_54 : decode cX5_layOrders 54 = .ok (.iconst 4, 1) := by decide +kernel
theorem dX5_layOrders_55 : decode cX5_layOrders 55 = .ok (.irem, 1) := by decide +kernel
theorem dX5_layOrders_56 : decode cX5_layOrders 56 = .ok (.ishl, 1) := by decide +kernel
theorem dX5_layOrders_57 : decode cX5_layOrders 57 = .ok (.ior, 1) := by decide +kernel
theorem dX5_layOrders_58 : decode cX5_layOrders 58 = .ok (.istore 4, 2) := by decide +kernel
theorem dX5_layOrders_60 : decode cX5_layOrders 60 = .ok (.iinc 5 1, 3) := by decide +kernel
theorem dX5_layOrders_63 : decode cX5_layOrders 63 = .ok (.iload 6, 2) := by decide +kernel
theorem dX5_layOrders_65 : decode cX5_layOrders 65 = .ok (.iconst 4, 1) := by decide +kernel
theorem dX5_layOrders_66 : decode cX5_layOrders 66 = .ok (.idiv, 1) := by decide +kernel
theorem dX5_layOrders_67 : decode cX5_layOrders 67 = .ok (.istore 6, 2) := by decide +kernel
theorem dX5_layOrders_69 : decode cX5_layOrders 69 = .ok (.goto (-26), 3) := by decide +kernel
theorem dX5_layOrders_72 : decode cX5_layOrders 72 = .ok (.iload 4, 2) := by decide +kernel
theorem dX5_layOrders_74 : decode cX5_layOrders 74 = .ok (.iconst 1, 1) := by decide +kernel
theorem dX5_layOrders_75 : decode cX5_layOrders 75 = .ok (.iload_n 1, 1) := by decide +kernel
theorem dX5_layOrders_76 : decode cX5_layOrders 76 = .ok (.ishl, 1) := by decide +kernel
theorem dX5_layOrders_77 : decode cX5_layOrders 77 = .ok (.iconst 1, 1) := by decide +kernel
theorem dX5_layOrders_78 : decode cX5_layOrders 78 = .ok (.isub, 1) := by decide +kernel
theorem dX5_layOrders_79 : decode cX5_layOrders 79 = .ok (.if_icmp .ne 65, 3) := by decide +kernel
theorem dX5_layOrders_82 : decode cX5_layOrders 82 = .ok (.iconst 0, 1) := by decide +kernel
theorem dX5_layOrders_83 : decode cX5_layOrders 83 = .ok (.istore 5, 2) := by decide +kernel
theorem dX5_layOrders_85 : decode cX5_layOrders 85 = .ok (.iload_n 3, 1) := by decide +kernel
theorem dX5_layOrders_86 : decode cX5_layOrders 86 = .ok (.istore 6, 2) := by decide +kernel
theorem dX5_layOrders_88 : decode cX5_layOrders 88 = .ok (.iload 5, 2) := by decide +kernel
theorem dX5_layOrders_90 : decode cX5_layOrders 90 = .ok (.iload_n 1, 1) := by decide +kernel
theorem dX5_layOrders_91 : decode cX5_layOrders 91 = .ok (.if_icmp .ge 33, 3) := by decide +kernel
theorem dX5_layOrders_94 : decode cX5_layOrders 94 = .ok (.aload_n 0, 1) := by decide +kernel
theorem dX5_layOrders_95 : decode cX5_layOrders 95 = .ok (.getfield 27, 3) := by decide +kernel
theorem dX5_layOrders_98 : decode cX5_layOrders 98 = .ok (.iconst 4, 1) := by decide +kernel
theorem dX5_layOrders_99 : decode cX5_layOrders 99 = .ok (.aload_n 0, 1) := by decide +kernel
theorem dX5_layOrders_100 : decode cX5_layOrders 100 = .ok (.getfield 146, 3) := by decide +kernel
theorem dX5_layOrders_103 : decode cX5_layOrders 103 = .ok (.imul, 1) := by decide +kernel
theorem dX5_layOrders_104 : decode cX5_layOrders 104 = .ok (.iload 5, 2) := by decide +kernel
theorem dX5_layOrders_106 : decode cX5_layOrders 106 = .ok (.iadd, 1) := by decide +kernel
theorem dX5_layOrders_107 : decode cX5_layOrders 107 = .ok (.iload 6, 2) := by decide +kernel
theorem dX5_layOrders_109 : decode cX5_layOrders 109 = .ok (.iconst 4, 1) := by decide +kernel
theorem dX5_layOrders_110 : decode cX5_layOrders 110 = .ok (.irem, 1) := by decide +kernel
theorem dX5_layOrders_111 : decode cX5_layOrders 111 = .ok (.iastore, 1) := by decide +kernel
theorem dX5_layOrders_112 : decode cX5_layOrders 112 = .ok (.iinc 5 1, 3) := by decide +kernel
theorem dX5_layOrders_115 : decode cX5_layOrders 115 = .ok (.iload 6, 2) := by decide +kernel
theorem dX5_layOrders_117 : decode cX5_layOrders 117 = .ok (.iconst 4, 1) := by decide +kernel
theorem dX5_layOrders_118 : decode cX5_layOrders 118 = .ok (.idiv, 1) := by decide +kernel
theorem dX5_layOrders_119 : decode cX5_layOrders 119 = .ok (.istore 6, 2) := by decide +kernel
theorem dX5_layOrders_121 : decode cX5_layOrders 121 = .ok (.goto (-33), 3) := by decide +kernel
theorem dX5_layOrders_124 : decode cX5_layOrders 124 = .ok (.aload_n 0, 1) := by decide +kernel
theorem dX5_layOrders_125 : decode cX5_layOrders 125 = .ok (.getfield 30, 3) := by decide +kernel
theorem dX5_layOrders_128 : decode cX5_layOrders 128 = .ok (.iload_n 3, 1) := by decide +kernel
theorem dX5_layOrders_129 : decode cX5_layOrders 129 = .ok (.aload_n 0, 1) := by decide +kernel
theorem dX5_layOrders_130 : decode cX5_layOrders 130 = .ok (.getfield 146, 3) := by decide +kernel
theorem dX5_layOrders_133 : decode cX5_layOrders 133 = .ok (.iastore, 1) := by decide +kernel
theorem dX5_layOrders_134 : decode cX5_layOrders 134 = .ok (.aload_n 0, 1) := by decide +kernel
theorem dX5_layOrders_135 : decode cX5_layOrders 135 = .ok (.dup, 1) := by decide +kernel
theorem dX5_layOrders_136 : decode cX5_layOrders 136 = .ok (.getfield 146, 3) := by decide +kernel
theorem dX5_layOrders_139 : decode cX5_layOrders 139 = .ok (.iconst 1, 1) := by decide +kernel
theorem dX5_layOrders_140 : decode cX5_layOrders 140 = .ok (.iadd, 1) := by decide +kernel
theorem dX5_layOrders_141 : decode cX5_layOrders 141 = .ok (.putfield 146, 3) := by decide +kernel
theorem dX5_layOrders_144 : decode cX5_layOrders 144 = .ok (.iinc 3 1, 3) := by decide +kernel
theorem dX5_layOrders_147 : decode cX5_layOrders 147 = .ok (.goto (-118), 3) := by decide +kernel
theorem dX5_layOrders_150 : decode cX5_layOrders 150 = .ok (.return_, 1) := by decide +kernel
theorem dX5_layWays_0 : decode cX5_layWays 0 = .ok (.aload_n 0, 1) := by decide +kernel
theorem dX5_layWays_1 : decode cX5_layWays 1 = .ok (.iconst 0, 1) := by decide +kernel
theorem dX5_layWays_2 : decode cX5_layWays 2 = .ok (.putfield 149, 3) := by decide +kernel
theorem dX5_layWays_5 : decode cX5_layWays 5 = .ok (.iconst 0, 1) := by decide +kernel
theorem dX5_layWays_6 : decode cX5_layWays 6 = .ok (.istore_n 2, 1) := by decide +kernel
theorem dX5_layWays_7 : decode cX5_layWays 7 = .ok (.iload_n 2, 1) := by decide +kernel
theorem dX5_layWays_8 : decode cX5_layWays 8 = .ok (.sipush 15625, 3) := by decide +kernel
theorem dX5_layWays_11 : decode cX5_layWays 11 = .ok (.if_icmp .ge 112, 3) := by decide +kernel
theorem dX5_layWays_14 : decode cX5_layWays 14 = .ok (.iconst 0, 1) := by decide +kernel
theorem dX5_layWays_15 : decode cX5_layWays 15 = .ok (.istore_n 3, 1) := by decide +kernel
theorem dX5_layWays_16 : decode cX5_layWays 16 = .ok (.iconst 0, 1) := by decide +kernel
theorem dX5_layWays_17 : decode cX5_layWays 17 = .ok (.istore 4, 2) := by decide +kernel
theorem dX5_layWays_19 : decode cX5_layWays 19 = .ok (.iload_n 2, 1) := by decide +kernel
theorem dX5_layWays_20 : decode cX5_layWays 20 = .ok (.istore 5, 2) := by decide +kernel
theorem dX5_layWays_22 : decode cX5_layWays 22 = .ok (.iload 4, 2) := by decide +kernel
theorem dX5_layWays_24 : decode cX5_layWays 24 = .ok (.bipush 6, 2) := by decide +kernel
theorem dX5_layWays_26 : decode cX5_layWays 26 = .ok (.if_icmp .ge 22, 3) := by decide +kernel
theorem dX5_layWays_29 : decode cX5_layWays 29 = .ok (.iload_n 3, 1) := by decide +kernel
theorem dX5_layWays_30 : decode cX5_layWays 30 = .ok (.iload 5, 2) := by decide +kernel
theorem dX5_layWays_32 : decode cX5_layWays 32 = .ok (.iconst 5, 1) := by decide +kernel
theorem dX5_layWays_33 : decode cX5_layWays 33 = .ok (.irem, 1) := by decide +kernel
theorem dX5_layWays_34 : decode cX5_layWays 34 = .ok (.iadd, 1) := by decide +kernel
theorem dX5_layWays_35 : decode cX5_layWays 35 = .ok (.istore_n 3, 1) := by decide +kernel
theorem dX5_layWays_36 : decode cX5_layWays 36 = .ok (.iinc 4 1, 3) := by decide +kernel
theorem dX5_layWays_39 : decode cX5_layWays 39 = .ok (.iload 5, 2) := by decide +kernel
theorem dX5_layWays_41 : decode cX5_layWays 41 = .ok (.iconst 5, 1) := by decide +kernel
theorem dX5_layWays_42 : decode cX5_layWays 42 = .ok (.idiv, 1) := by decide +kernel
theorem dX5_layWays_43 : decode cX5_layWays 43 = .ok (.istore 5, 2) := by decide +kernel
theorem dX5_layWays_45 : decode cX5_layWays 45 = .ok (.goto (-23), 3) := by decide +kernel
theorem dX5_layWays_48 : decode cX5_layWays 48 = .ok (.iload_n 3, 1) := by decide +kernel
theorem dX5_layWays_49 : decode cX5_layWays 49 = .ok (.iload_n 1, 1) := by decide +kernel
theorem dX5_layWays_50 : decode cX5_layWays 50 = .ok (.if_icmp .ne 67, 3) := by decide +kernel
theorem dX5_layWays_53 : decode cX5_layWays 53 = .ok (.iconst 0, 1) := by decide +kernel
theorem dX5_layWays_54 : decode cX5_layWays 54 = .ok (.istore 4, 2) := by decide +kernel
theorem dX5_layWays_56 : decode cX5_layWays 56 = .ok (.iload_n 2, 1) := by decide +kernel
theorem dX5_layWays_57 : decode cX5_layWays 57 = .ok (.istore 5, 2) := by decide +kernel
theorem dX5_layWays_59 : decode cX5_layWays 59 = .ok (.iload 4, 2) := by decide +kernel
theorem dX5_layWays_61 : decode cX5_layWays 61 = .ok (.bipush 6, 2) := by decide +kernel
theorem dX5_layWays_63 : decode cX5_layWays 63 = .ok (.if_icmp .ge 34, 3) := by decide +kernel
theorem dX5_layWays_66 : decode cX5_layWays 66 = .ok (.aload_n 0, 1) := by decide +kernel
theorem dX5_layWays_67 : decode cX5_layWays 67 = .ok (.getfield 33, 3) := by decide +kernel
theorem dX5_layWays_70 : decode cX5_layWays 70 = .ok (.bipush 6, 2) := by decide +kernel
theorem dX5_layWays_72 : decode cX5_layWays 72 = .ok (.aload_n 0, 1) := by decide +kernel
theorem dX5_layWays_73 : decode cX5_layWays 73 = .ok (.getfield 149, 3) := by decide +kernel
theorem dX5_layWays_76 : decode cX5_layWays 76 = .ok (.imul, 1) := by decide +kernel
theorem dX5_layWays_77 : decode cX5_layWays 77 = .ok (.iload 4, 2) := by decide +kernel
theorem dX5_layWays_79 : decode cX5_layWays 79 = .ok (.iadd, 1) := by decide +kernel
theorem dX5_layWays_80 : decode cX5_layWays 80 = .ok (.iload 5, 2) := by decide +kernel
theorem dX5_layWays_82 : decode cX5_layWays 82 = .ok (.iconst 5, 1) := by decide +kernel
theorem dX5_layWays_83 : decode cX5_layWays 83 = .ok (.irem, 1) := by decide +kernel
theorem dX5_layWays_84 : decode cX5_layWays 84 = .ok (.iastore, 1) := by decide +kernel
theorem dX5_layWays_85 : decode cX5_layWays 85 = .ok (.iinc 4 1, 3) := by decide +kernel
theorem dX5_layWays_88 : decode cX5_layWays 88 = .ok (.iload 5, 2) := by decide +kernel
theorem dX5_layWays_90 : decode cX5_layWays 90 = .ok (.iconst 5, 1) := by decide +kernel
theorem dX5_layWays_91 : decode cX5_layWays 91 = .ok (.idiv, 1) := by decide +kernel
theorem dX5_layWays_92 : decode cX5_layWays 92 = .ok (.istore 5, 2) := by decide +kernel
theorem dX5_layWays_94 : decode cX5_layWays 94 = .ok (.goto (-35), 3) := by decide +kernel
theorem dX5_layWays_97 : decode cX5_layWays 97 = .ok (.aload_n 0, 1) := by decide +kernel
theorem dX5_layWays_98 : decode cX5_layWays 98 = .ok (.getfield 36, 3) := by decide +kernel
theorem dX5_layWays_101 : decode cX5_layWays 101 = .ok (.iload_n 2, 1) := by decide +kernel
theorem dX5_layWays_102 : decode cX5_layWays 102 = .ok (.aload_n 0, 1) := by decide +kernel
theorem dX5_layWays_103 : decode cX5_layWays 103 = .ok (.getfield 149, 3) := by decide +kernel
theorem dX5_layWays_106 : decode cX5_layWays 106 = .ok (.iastore, 1) := by decide +kernel
theorem dX5_layWays_107 : decode cX5_layWays 107 = .ok (.aload_n 0, 1) := by decide +kernel
theorem dX5_layWays_108 : decode cX5_layWays 108 = .ok (.dup, 1) := by decide +kernel
theorem dX5_layWays_109 : decode cX5_layWays 109 = .ok (.getfield 149, 3) := by decide +kernel
theorem dX5_layWays_112 : decode cX5_layWays 112 = .ok (.iconst 1, 1) := by decide +kernel
theorem dX5_layWays_113 : decode cX5_layWays 113 = .ok (.iadd, 1) := by decide +kernel
theorem dX5_layWays_114 : decode cX5_layWays 114 = .ok (.putfield 149, 3) := by decide +kernel
theorem dX5_layWays_117 : decode cX5_layWays 117 = .ok (.iinc 2 1, 3) := by decide +kernel
theorem dX5_layWays_120 : decode cX5_layWays 120 = .ok (.goto (-113), 3) := by decide +kernel
theorem dX5_layWays_123 : decode cX5_layWays 123 = .ok (.return_, 1) := by decide +kernel
