theorem dX5_finishOne_0 : decode cX5_finishOne 0 = .ok (.aload_n 0, 1) := by decide +kernel
theorem dX5_finishOne_1 : decode cX5_finishOne 1 = .ok (.getfield 57, 3) := by decide +kernel
theorem dX5_finishOne_4 : decode cX5_finishOne 4 = .ok (.iload_n 1, 1) := by decide +kernel
theorem dX5_finishOne_5 : decode cX5_finishOne 5 = .ok (.iconst 1, 1) := by decide +kernel
theorem dX5_finishOne_6 : decode cX5_finishOne 6 = .ok (.bastore, 1) := by decide +kernel
theorem dX5_finishOne_7 : decode cX5_finishOne 7 = .ok (.aload_n 0, 1) := by decide +kernel
theorem dX5_finishOne_8 : decode cX5_finishOne 8 = .ok (.getfield 51, 3) := by decide +kernel
theorem dX5_finishOne_11 : decode cX5_finishOne 11 = .ok (.iload_n 1, 1) := by decide +kernel
theorem dX5_finishOne_12 : decode cX5_finishOne 12 = .ok (.iload_n 3, 1) := by decide +kernel
theorem dX5_finishOne_13 : decode cX5_finishOne 13 = .ok (.iastore, 1) := by decide +kernel
theorem dX5_finishOne_14 : decode cX5_finishOne 14 = .ok (.aload_n 0, 1) := by decide +kernel
theorem dX5_finishOne_15 : decode cX5_finishOne 15 = .ok (.getfield 54, 3) := by decide +kernel
theorem dX5_finishOne_18 : decode cX5_finishOne 18 = .ok (.iload_n 1, 1) := by decide +kernel
theorem dX5_finishOne_19 : decode cX5_finishOne 19 = .ok (.iload_n 2, 1) := by decide +kernel
theorem dX5_finishOne_20 : decode cX5_finishOne 20 = .ok (.iastore, 1) := by decide +kernel
theorem dX5_finishOne_21 : decode cX5_finishOne 21 = .ok (.aload_n 0, 1) := by decide +kernel
theorem dX5_finishOne_22 : decode cX5_finishOne 22 = .ok (.getfield 66, 3) := by decide +kernel
theorem dX5_finishOne_25 : decode cX5_finishOne 25 = .ok (.aload_n 0, 1) := by decide +kernel
theorem dX5_finishOne_26 : decode cX5_finishOne 26 = .ok (.getfield 181, 3) := by decide +kernel
theorem dX5_finishOne_29 : decode cX5_finishOne 29 = .ok (.iload_n 1, 1) := by decide +kernel
theorem dX5_finishOne_30 : decode cX5_finishOne 30 = .ok (.iastore, 1) := by decide +kernel
theorem dX5_finishOne_31 : decode cX5_finishOne 31 = .ok (.aload_n 0, 1) := by decide +kernel
theorem dX5_finishOne_32 : decode cX5_finishOne 32 = .ok (.dup, 1) := by decide +kernel
theorem dX5_finishOne_33 : decode cX5_finishOne 33 = .ok (.getfield 181, 3) := by decide +kernel
theorem dX5_finishOne_36 : decode cX5_finishOne 36 = .ok (.iconst 1, 1) := by decide +kernel
theorem dX5_finishOne_37 : decode cX5_finishOne 37 = .ok (.iadd, 1) := by decide +kernel
theorem dX5_finishOne_38 : decode cX5_finishOne 38 = .ok (.putfield 181, 3) := by decide +kernel
theorem dX5_finishOne_41 : decode cX5_finishOne 41 = .ok (.bipush 10, 2) := by decide +kernel
theorem dX5_finishOne_43 : decode cX5_finishOne 43 = .ok (.istore 4, 2) := by decide +kernel
theorem dX5_finishOne_45 : decode cX5_finishOne 45 = .ok (.iload 4, 2) := by decide +kernel
theorem dX5_finishOne_47 : decode cX5_finishOne 47 = .ok (.bipush 50, 2) := by decide +kernel
theorem dX5_finishOne_49 : decode cX5_finishOne 49 = .ok (.if_icmp .ge 42, 3) := by decide +kernel
theorem dX5_finishOne_52 : decode cX5_finishOne 52 = .ok (.iconst 1, 1) := by decide +kernel
theorem dX5_finishOne_53 : decode cX5_finishOne 53 = .ok (.istore 5, 2) := by decide +kernel
theorem dX5_finishOne_55 : decode cX5_finishOne 55 = .ok (.iload 5, 2) := by decide +kernel
theorem dX5_finishOne_57 : decode cX5_finishOne 57 = .ok (.iconst 3, 1) := by decide +kernel
theorem dX5_finishOne_58 : decode cX5_finishOne 58 = .ok (.if_icmp .gt 27, 3) := by decide +kernel
theorem dX5_finishOne_61 : decode cX5_finishOne 61 = .ok (.aload_n 0, 1) := by decide +kernel
theorem dX5_finishOne_62 : decode cX5_finishOne 62 = .ok (.aload_n 0, 1) := by decide +kernel
theorem dX5_finishOne_63 : decode cX5_finishOne 63 = .ok (.iload_n 1, 1) := by decide +kernel
theorem dX5_finishOne_64 : decode cX5_finishOne 64 = .ok (.iload 4, 2) := by decide +kernel
theorem dX5_finishOne_66 : decode cX5_finishOne 66 = .ok (.iload 5, 2) := by decide +kernel
theorem dX5_finishOne_68 : decode cX5_finishOne 68 = .ok (.iadd, 1) := by decide +kernel
theorem dX5_finishOne_69 : decode cX5_finishOne 69 = .ok (.invokevirtual 184, 3) := by decide +kernel
theorem dX5_finishOne_72 : decode cX5_finishOne 72 = .ok (.iload_n 2, 1) := by decide +kernel
theorem dX5_finishOne_73 : decode cX5_finishOne 73 = .ok (.iconst 1, 1) := by decide +kernel
theorem dX5_finishOne_74 : decode cX5_finishOne 74 = .ok (.iadd, 1) := by decide +kernel
theorem dX5_finishOne_75 : decode cX5_finishOne 75 = .ok (.iload_n 3, 1) := by decide +kernel
theorem dX5_finishOne_76 : decode cX5_finishOne 76 = .ok (.invokevirtual 187, 3) := by decide +kernel
theorem dX5_finishOne_79 : decode cX5_finishOne 79 = .ok (.iinc 5 1, 3) := by decide +kernel
theorem dX5_finishOne_82 : decode cX5_finishOne 82 = .ok (.goto (-27), 3) := by decide +kernel
theorem dX5_finishOne_85 : decode cX5_finishOne 85 = .ok (.iinc 4 10, 3) := by decide +kernel
theorem dX5_finishOne_88 : decode cX5_finishOne 88 = .ok (.goto (-43), 3) := by decide +kernel
theorem dX5_finishOne_91 : decode cX5_finishOne 91 = .ok (.return_, 1) := by decide +kernel
theorem dX5_finishLevel_0 : decode cX5_finishLevel 0 = .ok (.iconst 0, 1) := by decide +kernel
theorem dX5_finishLevel_1 : decode cX5_finishLevel 1 = .ok (.istore_n 2, 1) := by decide +kernel
theorem dX5_finishLevel_2 : decode cX5_finishLevel 2 = .ok (.iconst 0, 1) := by decide +kernel
theorem dX5_finishLevel_3 : decode cX5_finishLevel 3 = .ok (.istore_n 3, 1) := by decide +kernel
theorem dX5_finishLevel_4 : decode cX5_finishLevel 4 = .ok (.aload_n 0, 1) := by decide +kernel
theorem dX5_finishLevel_5 : decode cX5_finishLevel 5 = .ok (.iconst 0, 1) := by decide +kernel
theorem dX5_finishLevel_6 : decode cX5_finishLevel 6 = .ok (.putfield 178, 3) := by decide +kernel
theorem dX5_finishLevel_9 : decode cX5_finishLevel 9 = .ok (.aload_n 0, 1) := by decide +kernel
theorem dX5_finishLevel_10 : decode cX5_finishLevel 10 = .ok (.iconst 0, 1) := by decide +kernel
theorem dX5_finishLevel_11 : decode cX5_finishLevel 11 = .ok (.putfield 181, 3) := by decide +kernel
theorem dX5_finishLevel_14 : decode cX5_finishLevel 14 = .ok (.iload_n 2, 1) := by decide +kernel
theorem dX5_finishLevel_15 : decode cX5_finishLevel 15 = .ok (.aload_n 0, 1) := by decide +kernel
theorem dX5_finishLevel_16 : decode cX5_finishLevel 16 = .ok (.getfield 175, 3) := by decide +kernel
theorem dX5_finishLevel_19 : decode cX5_finishLevel 19 = .ok (.if_icmp .lt 11, 3) := by decide +kernel
theorem dX5_finishLevel_22 : decode cX5_finishLevel 22 = .ok (.iload_n 3, 1) := by decide +kernel
theorem dX5_finishLevel_23 : decode cX5_finishLevel 23 = .ok (.aload_n 0, 1) := by decide +kernel
theorem dX5_finishLevel_24 : decode cX5_finishLevel 24 = .ok (.getfield 178, 3) := by decide +kernel
theorem dX5_finishLevel_27 : decode cX5_finishLevel 27 = .ok (.if_icmp .ge 133, 3) := by decide +kernel
theorem dX5_finishLevel_30 : decode cX5_finishLevel 30 = .ok (.iload_n 3, 1) := by decide +kernel
theorem dX5_finishLevel_31 : decode cX5_finishLevel 31 = .ok (.aload_n 0, 1) := by decide +kernel
theorem dX5_finishLevel_32 : decode cX5_finishLevel 32 = .ok (.getfield 178, 3) := by decide +kernel
theorem dX5_finishLevel_35 : decode cX5_finishLevel 35 = .ok (.if_icmp .eq 26, 3) := by decide +kernel
theorem dX5_finishLevel_38 : decode cX5_finishLevel 38 = .ok (.iload_n 2, 1) := by decide +kernel
theorem dX5_finishLevel_39 : decode cX5_finishLevel 39 = .ok (.aload_n 0, 1) := by decide +kernel
theorem dX5_finishLevel_40 : decode cX5_finishLevel 40 = .ok (.getfield 175, 3) := by decide +kernel
theorem dX5_finishLevel_43 : decode cX5_finishLevel 43 = .ok (.if_icmp .ge 22, 3) := by decide +kernel
theorem dX5_finishLevel_46 : decode cX5_finishLevel 46 = .ok (.aload_n 0, 1) := by decide +kernel
theorem dX5_finishLevel_47 : decode cX5_finishLevel 47 = .ok (.getfield 69, 3) := by decide +kernel
theorem dX5_finishLevel_50 : decode cX5_finishLevel 50 = .ok (.iload_n 2, 1) := by decide +kernel
theorem dX5_finishLevel_51 : decode cX5_finishLevel 51 = .ok (.iaload, 1) := by decide +kernel
theorem dX5_finishLevel_52 : decode cX5_finishLevel 52 = .ok (.aload_n 0, 1) := by decide +kernel
theorem dX5_finishLevel_53 : decode cX5_finishLevel 53 = .ok (.getfield 72, 3) := by decide +kernel
theorem dX5_finishLevel_56 : decode cX5_finishLevel 56 = .ok (.iload_n 3, 1) := by decide +kernel
theorem dX5_finishLevel_57 : decode cX5_finishLevel 57 = .ok (.iaload, 1) := by decide +kernel
theorem dX5_finishLevel_58 : decode cX5_finishLevel 58 = .ok (.if_icmp .gt 7, 3) := by decide +kernel
theorem dX5_finishLevel_61 : decode cX5_finishLevel 61 = .ok (.iconst 1, 1) := by decide +kernel
theorem dX5_finishLevel_62 : decode cX5_finishLevel 62 = .ok (.goto 4, 3) := by decide +kernel
theorem dX5_finishLevel_65 : decode cX5_finishLevel 65 = .ok (.iconst 0, 1) := by decide +kernel
theorem dX5_finishLevel_66 : decode cX5_finishLevel 66 = .ok (.istore 4, 2) := by decide +kernel
theorem dX5_finishLevel_68 : decode cX5_finishLevel 68 = .ok (.iload 4, 2) := by decide +kernel
theorem dX5_finishLevel_70 : decode cX5_finishLevel 70 = .ok (.ifCond .eq 12, 3) := by decide +kernel
theorem dX5_finishLevel_73 : decode cX5_finishLevel 73 = .ok (.aload_n 0, 1) := by decide +kernel
theorem dX5_finishLevel_74 : decode cX5_finishLevel 74 = .ok (.getfield 60, 3) := by decide +kernel
theorem dX5_finishLevel_77 : decode cX5_finishLevel 77 = .ok (.iload_n 2, 1) := by decide +kernel
theorem dX5_finishLevel_78 : decode cX5_finishLevel 78 = .ok (.iaload, 1) := by decide +kernel
theorem dX5_finishLevel_79 : decode cX5_finishLevel 79 = .ok (.goto 9, 3) := by decide +kernel
theorem dX5_finishLevel_82 : decode cX5_finishLevel 82 = .ok (.aload_n 0, 1) := by decide +kernel
theorem dX5_finishLevel_83 : decode cX5_finishLevel 83 = .ok (.getfield 63, 3) := by decide +kernel
theorem dX5_finishLevel_86 : decode cX5_finishLevel 86 = .ok (.iload_n 3, 1) := by decide +kernel
theorem dX5_finishLevel_87 : decode cX5_finishLevel 87 = .ok (.iaload, 1) := by decide +kernel
theorem dX5_finishLevel_88 : decode cX5_finishLevel 88 = .ok (.istore 5, 2) := by decide +kernel
theorem dX5_finishLevel_90 : decode cX5_finishLevel 90 = .ok (.iload 4, 2) := by decide +kernel
theorem dX5_finishLevel_92 : decode cX5_finishLevel 92 = .ok (.ifCond .eq 12, 3) := by decide +kernel
theorem dX5_finishLevel_95 : decode cX5_finishLevel 95 = .ok (.aload_n 0, 1) := by decide +kernel
theorem dX5_finishLevel_96 : decode cX5_finishLevel 96 = .ok (.getfield 69, 3) := by decide +kernel
theorem dX5_finishLevel_99 : decode cX5_finishLevel 99 = .ok (.iload_n 2, 1) := by decide +kernel
theorem dX5_finishLevel_100 : decode cX5_finishLevel 100 = .ok (.iaload, 1) := by decide +kernel
theorem dX5_finishLevel_101 : decode cX5_finishLevel 101 = .ok (.goto 9, 3) := by decide +kernel
theorem dX5_finishLevel_104 : decode cX5_finishLevel 104 = .ok (.aload_n 0, 1) := by decide +kernel
theorem dX5_finishLevel_105 : decode cX5_finishLevel 105 = .ok (.getfield 72, 3) := by decide +kernel
theorem dX5_finishLevel_108 : decode cX5_finishLevel 108 = .ok (.iload_n 3, 1) := by decide +kernel
theorem dX5_finishLevel_109 : decode cX5_finishLevel 109 = .ok (.iaload, 1) := by decide +kernel
theorem dX5_finishLevel_110 : decode cX5_finishLevel 110 = .ok (.istore 6, 2) := by decide +kernel
theorem dX5_finishLevel_112 : decode cX5_finishLevel 112 = .ok (.iload_n 2, 1) := by decide +kernel
theorem dX5_finishLevel_113 : decode cX5_finishLevel 113 = .ok (.iload 4, 2) := by decide +kernel
theorem dX5_finishLevel_115 : decode cX5_finishLevel 115 = .ok (.ifCond .eq 7, 3) := by decide +kernel
theorem dX5_finishLevel_118 : decode cX5_finishLevel 118 = .ok (.iconst 1, 1) := by decide +kernel
theorem dX5_finishLevel_119 : decode cX5_finishLevel 119 = .ok (.goto 4, 3) := by decide +kernel
theorem dX5_finishLevel_122 : decode cX5_finishLevel 122 = .ok (.iconst 0, 1) := by decide +kernel
theorem dX5_finishLevel_123 : decode cX5_finishLevel 123 = .ok (.iadd, 1) := by decide +kernel
theorem dX5_finishLevel_124 : decode cX5_finishLevel 124 = .ok (.istore_n 2, 1) := by decide +kernel
theorem dX5_finishLevel_125 : decode cX5_finishLevel 125 = .ok (.iload_n 3, 1) := by decide +kernel
theorem dX5_finishLevel_126 : decode cX5_finishLevel 126 = .ok (.iload 4, 2) := by decide +kernel
theorem dX5_finishLevel_128 : decode cX5_finishLevel 128 = .ok (.ifCond .eq 7, 3) := by decide +kernel
theorem dX5_finishLevel_131 : decode cX5_finishLevel 131 = .ok (.iconst 0, 1) := by decide +kernel
theorem dX5_finishLevel_132 : decode cX5_finishLevel 132 = .ok (.goto 4, 3) := by decide +kernel
theorem dX5_finishLevel_135 : decode cX5_finishLevel 135 = .ok (.iconst 1, 1) := by decide +kernel
theorem dX5_finishLevel_136 : decode cX5_finishLevel 136 = .ok (.iadd, 1) := by decide +kernel
theorem dX5_finishLevel_137 : decode cX5_finishLevel 137 = .ok (.istore_n 3, 1) := by decide +kernel
theorem dX5_finishLevel_138 : decode cX5_finishLevel 138 = .ok (.aload_n 0, 1) := by decide +kernel
theorem dX5_finishLevel_139 : decode cX5_finishLevel 139 = .ok (.getfield 57, 3) := by decide +kernel
theorem dX5_finishLevel_142 : decode cX5_finishLevel 142 = .ok (.iload 5, 2) := by decide +kernel
theorem dX5_finishLevel_144 : decode cX5_finishLevel 144 = .ok (.baload, 1) := by decide +kernel
theorem dX5_finishLevel_145 : decode cX5_finishLevel 145 = .ok (.ifCond .ne 12, 3) := by decide +kernel
theorem dX5_finishLevel_148 : decode cX5_finishLevel 148 = .ok (.aload_n 0, 1) := by decide +kernel
theorem dX5_finishLevel_149 : decode cX5_finishLevel 149 = .ok (.iload 5, 2) := by decide +kernel
theorem dX5_finishLevel_151 : decode cX5_finishLevel 151 = .ok (.iload 6, 2) := by decide +kernel
theorem dX5_finishLevel_153 : decode cX5_finishLevel 153 = .ok (.iload_n 1, 1) := by decide +kernel
theorem dX5_finishLevel_154 : decode cX5_finishLevel 154 = .ok (.invokevirtual 190, 3) := by decide +kernel
theorem dX5_finishLevel_157 : decode cX5_finishLevel 157 = .ok (.goto (-143), 3) := by decide +kernel
theorem dX5_finishLevel_160 : decode cX5_finishLevel 160 = .ok (.return_, 1) := by decide +kernel
theorem dX5_isGoal_0 : decode cX5_isGoal 0 = .ok (.aload_n 0, 1) := by decide +kernel
theorem dX5_isGoal_1 : decode cX5_isGoal 1 = .ok (.getfield 42, 3) := by decide +kernel
theorem dX5_isGoal_4 : decode cX5_isGoal 4 = .ok (.iload_n 2, 1) := by decide +kernel
theorem dX5_isGoal_5 : decode cX5_isGoal 5 = .ok (.iaload, 1) := by decide +kernel
theorem dX5_isGoal_6 : decode cX5_isGoal 6 = .ok (.istore_n 3, 1) := by decide +kernel
theorem dX5_isGoal_7 : decode cX5_isGoal 7 = .ok (.aload_n 0, 1) := by decide +kernel
theorem dX5_isGoal_8 : decode cX5_isGoal 8 = .ok (.getfield 48, 3) := by decide +kernel
theorem dX5_isGoal_11 : decode cX5_isGoal 11 = .ok (.iload_n 3, 1) := by decide +kernel
theorem dX5_isGoal_12 : decode cX5_isGoal 12 = .ok (.iaload, 1) := by decide +kernel
theorem dX5_isGoal_13 : decode cX5_isGoal 13 = .ok (.ifCond .le 19, 3) := by decide +kernel
theorem dX5_isGoal_16 : decode cX5_isGoal 16 = .ok (.aload_n 0, 1) := by decide +kernel
theorem dX5_isGoal_17 : decode cX5_isGoal 17 = .ok (.getfield 45, 3) := by decide +kernel
theorem dX5_isGoal_20 : decode cX5_isGoal 20 = .ok (.iconst 4, 1) := by decide +kernel
theorem dX5_isGoal_21 : decode cX5_isGoal 21 = .ok (.iload_n 3, 1) := by decide +kernel
theorem dX5_isGoal_22 : decode cX5_isGoal 22 = .ok (.imul, 1) := by decide +kernel
theorem dX5_isGoal_23 : decode cX5_isGoal 23 = .ok (.iaload, 1) := by decide +kernel
theorem dX5_isGoal_24 : decode cX5_isGoal 24 = .ok (.iload_n 1, 1) := by decide +kernel
theorem dX5_isGoal_25 : decode cX5_isGoal 25 = .ok (.if_icmp .ne 7, 3) := by decide +kernel
theorem dX5_isGoal_28 : decode cX5_isGoal 28 = .ok (.iconst 1, 1) := by decide +kernel
theorem dX5_isGoal_29 : decode cX5_isGoal 29 = .ok (.goto 4, 3) := by decide +kernel
theorem dX5_isGoal_32 : decode cX5_isGoal 32 = .ok (.iconst 0, 1) := by decide +kernel
theorem dX5_isGoal_33 : decode cX5_isGoal 33 = .ok (.ireturn, 1) := by decide +kernel
theorem dX5_layGoals_0 : decode cX5_layGoals 0 = .ok (.aload_n 0, 1) := by decide +kernel
theorem dX5_layGoals_1 : decode cX5_layGoals 1 = .ok (.iconst 0, 1) := by decide +kernel
theorem dX5_layGoals_2 : decode cX5_layGoals 2 = .ok (.putfield 175, 3) := by decide +kernel
theorem dX5_layGoals_5 : decode cX5_layGoals 5 = .ok (.iconst 0, 1) := by decide +kernel
theorem dX5_layGoals_6 : decode cX5_layGoals 6 = .ok (.istore_n 3, 1) := by decide +kernel
theorem dX5_layGoals_7 : decode cX5_layGoals 7 = .ok (.iload_n 3, 1) := by decide +kernel
theorem dX5_layGoals_8 : decode cX5_layGoals 8 = .ok (.sipush 4032, 3) := by decide +kernel
theorem dX5_layGoals_11 : decode cX5_layGoals 11 = .ok (.if_icmp .ge 30, 3) := by decide +kernel
theorem dX5_layGoals_14 : decode cX5_layGoals 14 = .ok (.aload_n 0, 1) := by decide +kernel
theorem dX5_layGoals_15 : decode cX5_layGoals 15 = .ok (.getfield 57, 3) := by decide +kernel
theorem dX5_layGoals_18 : decode cX5_layGoals 18 = .ok (.iload_n 3, 1) := by decide +kernel
theorem dX5_layGoals_19 : decode cX5_layGoals 19 = .ok (.iconst 0, 1) := by decide +kernel
theorem dX5_layGoals_20 : decode cX5_layGoals 20 = .ok (.bastore, 1) := by decide +kernel
theorem dX5_layGoals_21 : decode cX5_layGoals 21 = .ok (.aload_n 0, 1) := by decide +kernel
theorem dX5_layGoals_22 : decode cX5_layGoals 22 = .ok (.getfield 75, 3) := by decide +kernel
theorem dX5_layGoals_25 : decode cX5_layGoals 25 = .ok (.iload_n 3, 1) := by decide +kernel
theorem dX5_layGoals_26 : decode cX5_layGoals 26 = .ok (.iconst (-1), 1) := by decide +kernel
theorem dX5_layGoals_27 : decode cX5_layGoals 27 = .ok (.iastore, 1) := by decide +kernel
theorem dX5_layGoals_28 : decode cX5_layGoals 28 = .ok (.aload_n 0, 1) := by decide +kernel
theorem dX5_layGoals_29 : decode cX5_layGoals 29 = .ok (.getfield 78, 3) := by decide +kernel
theorem dX5_layGoals_32 : decode cX5_layGoals 32 = .ok (.iload_n 3, 1) := by decide +kernel
theorem dX5_layGoals_33 : decode cX5_layGoals 33 = .ok (.iconst (-1), 1) := by decide +kernel
theorem dX5_layGoals_34 : decode cX5_layGoals 34 = .ok (.iastore, 1) := by decide +kernel
theorem dX5_layGoals_35 : decode cX5_layGoals 35 = .ok (.iinc 3 1, 3) := by decide +kernel
theorem dX5_layGoals_38 : decode cX5_layGoals 38 = .ok (.goto (-31), 3) := by decide +kernel
theorem dX5_layGoals_41 : decode cX5_layGoals 41 = .ok (.iconst 0, 1) := by decide +kernel
theorem dX5_layGoals_42 : decode cX5_layGoals 42 = .ok (.istore_n 3, 1) := by decide +kernel
theorem dX5_layGoals_43 : decode cX5_layGoals 43 = .ok (.iload_n 3, 1) := by decide +kernel
theorem dX5_layGoals_44 : decode cX5_layGoals 44 = .ok (.aload_n 0, 1) := by decide +kernel
theorem dX5_layGoals_45 : decode cX5_layGoals 45 = .ok (.getfield 146, 3) := by decide +kernel
theorem dX5_layGoals_48 : decode cX5_layGoals 48 = .ok (.if_icmp .ge 100, 3) := by decide +kernel
theorem dX5_layGoals_51 : decode cX5_layGoals 51 = .ok (.iconst 0, 1) := by decide +kernel
theorem dX5_layGoals_52 : decode cX5_layGoals 52 = .ok (.istore 4, 2) := by decide +kernel
theorem dX5_layGoals_54 : decode cX5_layGoals 54 = .ok (.iload 4, 2) := by decide +kernel
theorem dX5_layGoals_56 : decode cX5_layGoals 56 = .ok (.aload_n 0, 1) := by decide +kernel
theorem dX5_layGoals_57 : decode cX5_layGoals 57 = .ok (.getfield 149, 3) := by decide +kernel
theorem dX5_layGoals_60 : decode cX5_layGoals 60 = .ok (.if_icmp .ge 82, 3) := by decide +kernel
theorem dX5_layGoals_63 : decode cX5_layGoals 63 = .ok (.iload_n 3, 1) := by decide +kernel
theorem dX5_layGoals_64 : decode cX5_layGoals 64 = .ok (.bipush 56, 2) := by decide +kernel
theorem dX5_layGoals_66 : decode cX5_layGoals 66 = .ok (.imul, 1) := by decide +kernel
theorem dX5_layGoals_67 : decode cX5_layGoals 67 = .ok (.iload 4, 2) := by decide +kernel
theorem dX5_layGoals_69 : decode cX5_layGoals 69 = .ok (.iadd, 1) := by decide +kernel
theorem dX5_layGoals_70 : decode cX5_layGoals 70 = .ok (.bipush 12, 2) := by decide +kernel
theorem dX5_layGoals_72 : decode cX5_layGoals 72 = .ok (.imul, 1) := by decide +kernel
theorem dX5_layGoals_73 : decode cX5_layGoals 73 = .ok (.istore 5, 2) := by decide +kernel
theorem dX5_layGoals_75 : decode cX5_layGoals 75 = .ok (.aload_n 0, 1) := by decide +kernel
theorem dX5_layGoals_76 : decode cX5_layGoals 76 = .ok (.iload 5, 2) := by decide +kernel
theorem dX5_layGoals_78 : decode cX5_layGoals 78 = .ok (.invokevirtual 162, 3) := by decide +kernel
theorem dX5_layGoals_81 : decode cX5_layGoals 81 = .ok (.aload_n 0, 1) := by decide +kernel
theorem dX5_layGoals_82 : decode cX5_layGoals 82 = .ok (.invokevirtual 193, 3) := by decide +kernel
theorem dX5_layGoals_85 : decode cX5_layGoals 85 = .ok (.ifCond .eq 16, 3) := by decide +kernel
theorem dX5_layGoals_88 : decode cX5_layGoals 88 = .ok (.aload_n 0, 1) := by decide +kernel
theorem dX5_layGoals_89 : decode cX5_layGoals 89 = .ok (.iload_n 1, 1) := by decide +kernel
theorem dX5_layGoals_90 : decode cX5_layGoals 90 = .ok (.iload_n 2, 1) := by decide +kernel
theorem dX5_layGoals_91 : decode cX5_layGoals 91 = .ok (.invokevirtual 197, 3) := by decide +kernel
theorem dX5_layGoals_94 : decode cX5_layGoals 94 = .ok (.ifCond .eq 7, 3) := by decide +kernel
theorem dX5_layGoals_97 : decode cX5_layGoals 97 = .ok (.iconst 1, 1) := by decide +kernel
theorem dX5_layGoals_98 : decode cX5_layGoals 98 = .ok (.goto 4, 3) := by decide +kernel
theorem dX5_layGoals_101 : decode cX5_layGoals 101 = .ok (.iconst 0, 1) := by decide +kernel
theorem dX5_layGoals_102 : decode cX5_layGoals 102 = .ok (.istore 6, 2) := by decide +kernel
theorem dX5_layGoals_104 : decode cX5_layGoals 104 = .ok (.iconst 0, 1) := by decide +kernel
theorem dX5_layGoals_105 : decode cX5_layGoals 105 = .ok (.istore 7, 2) := by decide +kernel
theorem dX5_layGoals_107 : decode cX5_layGoals 107 = .ok (.iload 7, 2) := by decide +kernel
theorem dX5_layGoals_109 : decode cX5_layGoals 109 = .ok (.bipush 12, 2) := by decide +kernel
theorem dX5_layGoals_111 : decode cX5_layGoals 111 = .ok (.if_icmp .ge 25, 3) := by decide +kernel
theorem dX5_layGoals_114 : decode cX5_layGoals 114 = .ok (.iload 6, 2) := by decide +kernel
theorem dX5_layGoals_116 : decode cX5_layGoals 116 = .ok (.ifCond .eq 20, 3) := by decide +kernel
theorem dX5_layGoals_119 : decode cX5_layGoals 119 = .ok (.aload_n 0, 1) := by decide +kernel
theorem dX5_layGoals_120 : decode cX5_layGoals 120 = .ok (.iload 5, 2) := by decide +kernel
theorem dX5_layGoals_122 : decode cX5_layGoals 122 = .ok (.iload 7, 2) := by decide +kernel
theorem dX5_layGoals_124 : decode cX5_layGoals 124 = .ok (.iadd, 1) := by decide +kernel
theorem dX5_layGoals_125 : decode cX5_layGoals 125 = .ok (.iconst 0, 1) := by decide +kernel
theorem dX5_layGoals_126 : decode cX5_layGoals 126 = .ok (.iconst 0, 1) := by decide +kernel
theorem dX5_layGoals_127 : decode cX5_layGoals 127 = .ok (.invokevirtual 201, 3) := by decide +kernel
theorem dX5_layGoals_130 : decode cX5_layGoals 130 = .ok (.iinc 7 1, 3) := by decide +kernel
theorem dX5_layGoals_133 : decode cX5_layGoals 133 = .ok (.goto (-26), 3) := by decide +kernel
theorem dX5_layGoals_136 : decode cX5_layGoals 136 = .ok (.iinc 4 1, 3) := by decide +kernel
theorem dX5_layGoals_139 : decode cX5_layGoals 139 = .ok (.goto (-85), 3) := by decide +kernel
theorem dX5_layGoals_142 : decode cX5_layGoals 142 = .ok (.iinc 3 1, 3) := by decide +kernel
theorem dX5_layGoals_145 : decode cX5_layGoals 145 = .ok (.goto (-102), 3) := by decide +kernel
theorem dX5_layGoals_148 : decode cX5_layGoals 148 = .ok (.return_, 1) := by decide +kernel
theorem dX5_layAll_0 : decode cX5_layAll 0 = .ok (.aload_n 0, 1) := by decide +kernel
theorem dX5_layAll_1 : decode cX5_layAll 1 = .ok (.aload_n 0, 1) := by decide +kernel
theorem dX5_layAll_2 : decode cX5_layAll 2 = .ok (.getfield 7, 3) := by decide +kernel
theorem dX5_layAll_5 : decode cX5_layAll 5 = .ok (.bipush 14, 2) := by decide +kernel
theorem dX5_layAll_7 : decode cX5_layAll 7 = .ok (.iaload, 1) := by decide +kernel
theorem dX5_layAll_8 : decode cX5_layAll 8 = .ok (.invokevirtual 204, 3) := by decide +kernel
theorem dX5_layAll_11 : decode cX5_layAll 11 = .ok (.aload_n 0, 1) := by decide +kernel
theorem dX5_layAll_12 : decode cX5_layAll 12 = .ok (.aload_n 0, 1) := by decide +kernel
theorem dX5_layAll_13 : decode cX5_layAll 13 = .ok (.getfield 7, 3) := by decide +kernel
theorem dX5_layAll_16 : decode cX5_layAll 16 = .ok (.bipush 14, 2) := by decide +kernel
theorem dX5_layAll_18 : decode cX5_layAll 18 = .ok (.iaload, 1) := by decide +kernel
theorem dX5_layAll_19 : decode cX5_layAll 19 = .ok (.invokevirtual 207, 3) := by decide +kernel
theorem dX5_layAll_22 : decode cX5_layAll 22 = .ok (.aload_n 0, 1) := by decide +kernel
theorem dX5_layAll_23 : decode cX5_layAll 23 = .ok (.iload_n 1, 1) := by decide +kernel
theorem dX5_layAll_24 : decode cX5_layAll 24 = .ok (.iload_n 2, 1) := by decide +kernel
theorem dX5_layAll_25 : decode cX5_layAll 25 = .ok (.invokevirtual 210, 3) := by decide +kernel
theorem dX5_layAll_28 : decode cX5_layAll 28 = .ok (.iconst 0, 1) := by decide +kernel
theorem dX5_layAll_29 : decode cX5_layAll 29 = .ok (.istore_n 3, 1) := by decide +kernel
theorem dX5_layAll_30 : decode cX5_layAll 30 = .ok (.aload_n 0, 1) := by decide +kernel
theorem dX5_layAll_31 : decode cX5_layAll 31 = .ok (.getfield 175, 3) := by decide +kernel
theorem dX5_layAll_34 : decode cX5_layAll 34 = .ok (.ifCond .le 99, 3) := by decide +kernel
theorem dX5_layAll_37 : decode cX5_layAll 37 = .ok (.aload_n 0, 1) := by decide +kernel
theorem dX5_layAll_38 : decode cX5_layAll 38 = .ok (.iload_n 3, 1) := by decide +kernel
theorem dX5_layAll_39 : decode cX5_layAll 39 = .ok (.invokevirtual 213, 3) := by decide +kernel
theorem dX5_layAll_42 : decode cX5_layAll 42 = .ok (.iinc 3 1, 3) := by decide +kernel
theorem dX5_layAll_45 : decode cX5_layAll 45 = .ok (.aload_n 0, 1) := by decide +kernel
theorem dX5_layAll_46 : decode cX5_layAll 46 = .ok (.iconst 0, 1) := by decide +kernel
theorem dX5_layAll_47 : decode cX5_layAll 47 = .ok (.putfield 175, 3) := by decide +kernel
theorem dX5_layAll_50 : decode cX5_layAll 50 = .ok (.iconst 0, 1) := by decide +kernel
theorem dX5_layAll_51 : decode cX5_layAll 51 = .ok (.istore 4, 2) := by decide +kernel
theorem dX5_layAll_53 : decode cX5_layAll 53 = .ok (.iload 4, 2) := by decide +kernel
theorem dX5_layAll_55 : decode cX5_layAll 55 = .ok (.aload_n 0, 1) := by decide +kernel
theorem dX5_layAll_56 : decode cX5_layAll 56 = .ok (.getfield 181, 3) := by decide +kernel
theorem dX5_layAll_59 : decode cX5_layAll 59 = .ok (.if_icmp .ge 71, 3) := by decide +kernel
theorem dX5_layAll_62 : decode cX5_layAll 62 = .ok (.aload_n 0, 1) := by decide +kernel
theorem dX5_layAll_63 : decode cX5_layAll 63 = .ok (.aload_n 0, 1) := by decide +kernel
theorem dX5_layAll_64 : decode cX5_layAll 64 = .ok (.aload_n 0, 1) := by decide +kernel
theorem dX5_layAll_65 : decode cX5_layAll 65 = .ok (.getfield 66, 3) := by decide +kernel
theorem dX5_layAll_68 : decode cX5_layAll 68 = .ok (.iload 4, 2) := by decide +kernel
theorem dX5_layAll_70 : decode cX5_layAll 70 = .ok (.iaload, 1) := by decide +kernel
theorem dX5_layAll_71 : decode cX5_layAll 71 = .ok (.iconst 0, 1) := by decide +kernel
theorem dX5_layAll_72 : decode cX5_layAll 72 = .ok (.invokevirtual 184, 3) := by decide +kernel
theorem dX5_layAll_75 : decode cX5_layAll 75 = .ok (.aload_n 0, 1) := by decide +kernel
theorem dX5_layAll_76 : decode cX5_layAll 76 = .ok (.getfield 54, 3) := by decide +kernel
theorem dX5_layAll_79 : decode cX5_layAll 79 = .ok (.aload_n 0, 1) := by decide +kernel
theorem dX5_layAll_80 : decode cX5_layAll 80 = .ok (.getfield 66, 3) := by decide +kernel
theorem dX5_layAll_83 : decode cX5_layAll 83 = .ok (.iload 4, 2) := by decide +kernel
theorem dX5_layAll_85 : decode cX5_layAll 85 = .ok (.iaload, 1) := by decide +kernel
theorem dX5_layAll_86 : decode cX5_layAll 86 = .ok (.iaload, 1) := by decide +kernel
theorem dX5_layAll_87 : decode cX5_layAll 87 = .ok (.iconst 1, 1) := by decide +kernel
theorem dX5_layAll_88 : decode cX5_layAll 88 = .ok (.iadd, 1) := by decide +kernel
theorem dX5_layAll_89 : decode cX5_layAll 89 = .ok (.iload_n 3, 1) := by decide +kernel
theorem dX5_layAll_90 : decode cX5_layAll 90 = .ok (.invokevirtual 201, 3) := by decide +kernel
theorem dX5_layAll_93 : decode cX5_layAll 93 = .ok (.aload_n 0, 1) := by decide +kernel
theorem dX5_layAll_94 : decode cX5_layAll 94 = .ok (.aload_n 0, 1) := by decide +kernel
theorem dX5_layAll_95 : decode cX5_layAll 95 = .ok (.aload_n 0, 1) := by decide +kernel
theorem dX5_layAll_96 : decode cX5_layAll 96 = .ok (.getfield 66, 3) := by decide +kernel
theorem dX5_layAll_99 : decode cX5_layAll 99 = .ok (.iload 4, 2) := by decide +kernel
theorem dX5_layAll_101 : decode cX5_layAll 101 = .ok (.iaload, 1) := by decide +kernel
theorem dX5_layAll_102 : decode cX5_layAll 102 = .ok (.iconst 1, 1) := by decide +kernel
theorem dX5_layAll_103 : decode cX5_layAll 103 = .ok (.invokevirtual 184, 3) := by decide +kernel
theorem dX5_layAll_106 : decode cX5_layAll 106 = .ok (.aload_n 0, 1) := by decide +kernel
theorem dX5_layAll_107 : decode cX5_layAll 107 = .ok (.getfield 54, 3) := by decide +kernel
theorem dX5_layAll_110 : decode cX5_layAll 110 = .ok (.aload_n 0, 1) := by decide +kernel
theorem dX5_layAll_111 : decode cX5_layAll 111 = .ok (.getfield 66, 3) := by decide +kernel
theorem dX5_layAll_114 : decode cX5_layAll 114 = .ok (.iload 4, 2) := by decide +kernel
theorem dX5_layAll_116 : decode cX5_layAll 116 = .ok (.iaload, 1) := by decide +kernel
theorem dX5_layAll_117 : decode cX5_layAll 117 = .ok (.iaload, 1) := by decide +kernel
theorem dX5_layAll_118 : decode cX5_layAll 118 = .ok (.iconst 1, 1) := by decide +kernel
theorem dX5_layAll_119 : decode cX5_layAll 119 = .ok (.iadd, 1) := by decide +kernel
theorem dX5_layAll_120 : decode cX5_layAll 120 = .ok (.iload_n 3, 1) := by decide +kernel
theorem dX5_layAll_121 : decode cX5_layAll 121 = .ok (.invokevirtual 201, 3) := by decide +kernel
theorem dX5_layAll_124 : decode cX5_layAll 124 = .ok (.iinc 4 1, 3) := by decide +kernel
theorem dX5_layAll_127 : decode cX5_layAll 127 = .ok (.goto (-74), 3) := by decide +kernel
theorem dX5_layAll_130 : decode cX5_layAll 130 = .ok (.goto (-100), 3) := by decide +kernel
theorem dX5_layAll_133 : decode cX5_layAll 133 = .ok (.return_, 1) := by decide +kernel
theorem dX5_situationNow_0 : decode cX5_situationNow 0 = .ok (.iconst 0, 1) := by decide +kernel
theorem dX5_situationNow_1 : decode cX5_situationNow 1 = .ok (.istore_n 1, 1) := by decide +kernel
theorem dX5_situationNow_2 : decode cX5_situationNow 2 = .ok (.iload_n 1, 1) := by decide +kernel
theorem dX5_situationNow_3 : decode cX5_situationNow 3 = .ok (.bipush 6, 2) := by decide +kernel
theorem dX5_situationNow_5 : decode cX5_situationNow 5 = .ok (.if_icmp .ge 95, 3) := by decide +kernel
theorem dX5_situationNow_8 : decode cX5_situationNow 8 = .ok (.iload_n 1, 1) := by decide +kernel
theorem dX5_situationNow_9 : decode cX5_situationNow 9 = .ok (.aload_n 0, 1) := by decide +kernel
theorem dX5_situationNow_10 : decode cX5_situationNow 10 = .ok (.getfield 152, 3) := by decide +kernel
theorem dX5_situationNow_13 : decode cX5_situationNow 13 = .ok (.if_icmp .gt 12, 3) := by decide +kernel
theorem dX5_situationNow_16 : decode cX5_situationNow 16 = .ok (.aload_n 0, 1) := by decide +kernel
theorem dX5_situationNow_17 : decode cX5_situationNow 17 = .ok (.getfield 39, 3) := by decide +kernel
theorem dX5_situationNow_20 : decode cX5_situationNow 20 = .ok (.iload_n 1, 1) := by decide +kernel
theorem dX5_situationNow_21 : decode cX5_situationNow 21 = .ok (.iaload, 1) := by decide +kernel
theorem dX5_situationNow_22 : decode cX5_situationNow 22 = .ok (.goto 5, 3) := by decide +kernel
theorem dX5_situationNow_25 : decode cX5_situationNow 25 = .ok (.bipush 12, 2) := by decide +kernel
theorem dX5_situationNow_27 : decode cX5_situationNow 27 = .ok (.istore_n 2, 1) := by decide +kernel
theorem dX5_situationNow_28 : decode cX5_situationNow 28 = .ok (.aload_n 0, 1) := by decide +kernel
theorem dX5_situationNow_29 : decode cX5_situationNow 29 = .ok (.getfield 48, 3) := by decide +kernel
theorem dX5_situationNow_32 : decode cX5_situationNow 32 = .ok (.iload_n 1, 1) := by decide +kernel
theorem dX5_situationNow_33 : decode cX5_situationNow 33 = .ok (.iload_n 1, 1) := by decide +kernel
theorem dX5_situationNow_34 : decode cX5_situationNow 34 = .ok (.aload_n 0, 1) := by decide +kernel
theorem dX5_situationNow_35 : decode cX5_situationNow 35 = .ok (.getfield 152, 3) := by decide +kernel
theorem dX5_situationNow_38 : decode cX5_situationNow 38 = .ok (.if_icmp .gt 15, 3) := by decide +kernel
theorem dX5_situationNow_41 : decode cX5_situationNow 41 = .ok (.aload_n 0, 1) := by decide +kernel
theorem dX5_situationNow_42 : decode cX5_situationNow 42 = .ok (.getfield 7, 3) := by decide +kernel
theorem dX5_situationNow_45 : decode cX5_situationNow 45 = .ok (.bipush 31, 2) := by decide +kernel
theorem dX5_situationNow_47 : decode cX5_situationNow 47 = .ok (.iload_n 2, 1) := by decide +kernel
theorem dX5_situationNow_48 : decode cX5_situationNow 48 = .ok (.iadd, 1) := by decide +kernel
theorem dX5_situationNow_49 : decode cX5_situationNow 49 = .ok (.iaload, 1) := by decide +kernel
theorem dX5_situationNow_50 : decode cX5_situationNow 50 = .ok (.goto 4, 3) := by decide +kernel
theorem dX5_situationNow_53 : decode cX5_situationNow 53 = .ok (.iconst 0, 1) := by decide +kernel
theorem dX5_situationNow_54 : decode cX5_situationNow 54 = .ok (.iastore, 1) := by decide +kernel
theorem dX5_situationNow_55 : decode cX5_situationNow 55 = .ok (.iconst 0, 1) := by decide +kernel
theorem dX5_situationNow_56 : decode cX5_situationNow 56 = .ok (.istore_n 3, 1) := by decide +kernel
theorem dX5_situationNow_57 : decode cX5_situationNow 57 = .ok (.iload_n 3, 1) := by decide +kernel
theorem dX5_situationNow_58 : decode cX5_situationNow 58 = .ok (.aload_n 0, 1) := by decide +kernel
theorem dX5_situationNow_59 : decode cX5_situationNow 59 = .ok (.getfield 48, 3) := by decide +kernel
theorem dX5_situationNow_62 : decode cX5_situationNow 62 = .ok (.iload_n 1, 1) := by decide +kernel
theorem dX5_situationNow_63 : decode cX5_situationNow 63 = .ok (.iaload, 1) := by decide +kernel
theorem dX5_situationNow_64 : decode cX5_situationNow 64 = .ok (.if_icmp .ge 30, 3) := by decide +kernel
theorem dX5_situationNow_67 : decode cX5_situationNow 67 = .ok (.aload_n 0, 1) := by decide +kernel
theorem dX5_situationNow_68 : decode cX5_situationNow 68 = .ok (.getfield 45, 3) := by decide +kernel
theorem dX5_situationNow_71 : decode cX5_situationNow 71 = .ok (.iconst 4, 1) := by decide +kernel
theorem dX5_situationNow_72 : decode cX5_situationNow 72 = .ok (.iload_n 1, 1) := by decide +kernel
theorem dX5_situationNow_73 : decode cX5_situationNow 73 = .ok (.imul, 1) := by decide +kernel
theorem dX5_situationNow_74 : decode cX5_situationNow 74 = .ok (.iload_n 3, 1) := by decide +kernel
theorem dX5_situationNow_75 : decode cX5_situationNow 75 = .ok (.iadd, 1) := by decide +kernel
theorem dX5_situationNow_76 : decode cX5_situationNow 76 = .ok (.aload_n 0, 1) := by decide +kernel
theorem dX5_situationNow_77 : decode cX5_situationNow 77 = .ok (.getfield 7, 3) := by decide +kernel
theorem dX5_situationNow_80 : decode cX5_situationNow 80 = .ok (.aload_n 0, 1) := by decide +kernel
theorem dX5_situationNow_81 : decode cX5_situationNow 81 = .ok (.iload_n 2, 1) := by decide +kernel
theorem dX5_situationNow_82 : decode cX5_situationNow 82 = .ok (.iload_n 3, 1) := by decide +kernel
theorem dX5_situationNow_83 : decode cX5_situationNow 83 = .ok (.invokevirtual 88, 3) := by decide +kernel
theorem dX5_situationNow_86 : decode cX5_situationNow 86 = .ok (.iaload, 1) := by decide +kernel
theorem dX5_situationNow_87 : decode cX5_situationNow 87 = .ok (.iastore, 1) := by decide +kernel
theorem dX5_situationNow_88 : decode cX5_situationNow 88 = .ok (.iinc 3 1, 3) := by decide +kernel
theorem dX5_situationNow_91 : decode cX5_situationNow 91 = .ok (.goto (-34), 3) := by decide +kernel
theorem dX5_situationNow_94 : decode cX5_situationNow 94 = .ok (.iinc 1 1, 3) := by decide +kernel
theorem dX5_situationNow_97 : decode cX5_situationNow 97 = .ok (.goto (-95), 3) := by decide +kernel
theorem dX5_situationNow_100 : decode cX5_situationNow 100 = .ok (.aload_n 0, 1) := by decide +kernel
theorem dX5_situationNow_101 : decode cX5_situationNow 101 = .ok (.aload_n 0, 1) := by decide +kernel
theorem dX5_situationNow_102 : decode cX5_situationNow 102 = .ok (.getfield 7, 3) := by decide +kernel
theorem dX5_situationNow_105 : decode cX5_situationNow 105 = .ok (.bipush 13, 2) := by decide +kernel
theorem dX5_situationNow_107 : decode cX5_situationNow 107 = .ok (.iaload, 1) := by decide +kernel
theorem dX5_situationNow_108 : decode cX5_situationNow 108 = .ok (.putfield 155, 3) := by decide +kernel
theorem dX5_situationNow_111 : decode cX5_situationNow 111 = .ok (.aload_n 0, 1) := by decide +kernel
theorem dX5_situationNow_112 : decode cX5_situationNow 112 = .ok (.invokevirtual 171, 3) := by decide +kernel
theorem dX5_situationNow_115 : decode cX5_situationNow 115 = .ok (.ireturn, 1) := by decide +kernel
theorem dX5_wrongPlan_0 : decode cX5_wrongPlan 0 = .ok (.aload_n 0, 1) := by decide +kernel
theorem dX5_wrongPlan_1 : decode cX5_wrongPlan 1 = .ok (.iload_n 1, 1) := by decide +kernel
theorem dX5_wrongPlan_2 : decode cX5_wrongPlan 2 = .ok (.invokevirtual 116, 3) := by decide +kernel
theorem dX5_wrongPlan_5 : decode cX5_wrongPlan 5 = .ok (.ifCond .ne 6, 3) := by decide +kernel
theorem dX5_wrongPlan_8 : decode cX5_wrongPlan 8 = .ok (.bipush (-3), 2) := by decide +kernel
theorem dX5_wrongPlan_10 : decode cX5_wrongPlan 10 = .ok (.ireturn, 1) := by decide +kernel
theorem dX5_wrongPlan_11 : decode cX5_wrongPlan 11 = .ok (.iload_n 2, 1) := by decide +kernel
theorem dX5_wrongPlan_12 : decode cX5_wrongPlan 12 = .ok (.invokestatic 92, 3) := by decide +kernel
theorem dX5_wrongPlan_15 : decode cX5_wrongPlan 15 = .ok (.ifCond .ne 5, 3) := by decide +kernel
theorem dX5_wrongPlan_18 : decode cX5_wrongPlan 18 = .ok (.iconst (-1), 1) := by decide +kernel
theorem dX5_wrongPlan_19 : decode cX5_wrongPlan 19 = .ok (.ireturn, 1) := by decide +kernel
theorem dX5_wrongPlan_20 : decode cX5_wrongPlan 20 = .ok (.aload_n 0, 1) := by decide +kernel
theorem dX5_wrongPlan_21 : decode cX5_wrongPlan 21 = .ok (.iload_n 2, 1) := by decide +kernel
theorem dX5_wrongPlan_22 : decode cX5_wrongPlan 22 = .ok (.invokevirtual 103, 3) := by decide +kernel
theorem dX5_wrongPlan_25 : decode cX5_wrongPlan 25 = .ok (.ifCond .ne 6, 3) := by decide +kernel
theorem dX5_wrongPlan_28 : decode cX5_wrongPlan 28 = .ok (.bipush (-2), 2) := by decide +kernel
theorem dX5_wrongPlan_30 : decode cX5_wrongPlan 30 = .ok (.ireturn, 1) := by decide +kernel
theorem dX5_wrongPlan_31 : decode cX5_wrongPlan 31 = .ok (.iconst 0, 1) := by decide +kernel
theorem dX5_wrongPlan_32 : decode cX5_wrongPlan 32 = .ok (.istore_n 3, 1) := by decide +kernel
theorem dX5_wrongPlan_33 : decode cX5_wrongPlan 33 = .ok (.iconst 0, 1) := by decide +kernel
theorem dX5_wrongPlan_34 : decode cX5_wrongPlan 34 = .ok (.istore 4, 2) := by decide +kernel
theorem dX5_wrongPlan_36 : decode cX5_wrongPlan 36 = .ok (.iload 4, 2) := by decide +kernel
theorem dX5_wrongPlan_38 : decode cX5_wrongPlan 38 = .ok (.bipush 12, 2) := by decide +kernel
theorem dX5_wrongPlan_40 : decode cX5_wrongPlan 40 = .ok (.if_icmp .ge 26, 3) := by decide +kernel
theorem dX5_wrongPlan_43 : decode cX5_wrongPlan 43 = .ok (.iload_n 3, 1) := by decide +kernel
theorem dX5_wrongPlan_44 : decode cX5_wrongPlan 44 = .ok (.aload_n 0, 1) := by decide +kernel
theorem dX5_wrongPlan_45 : decode cX5_wrongPlan 45 = .ok (.iload 4, 2) := by decide +kernel
theorem dX5_wrongPlan_47 : decode cX5_wrongPlan 47 = .ok (.invokevirtual 103, 3) := by decide +kernel
theorem dX5_wrongPlan_50 : decode cX5_wrongPlan 50 = .ok (.ifCond .eq 7, 3) := by decide +kernel
theorem dX5_wrongPlan_53 : decode cX5_wrongPlan 53 = .ok (.iconst 1, 1) := by decide +kernel
theorem dX5_wrongPlan_54 : decode cX5_wrongPlan 54 = .ok (.goto 4, 3) := by decide +kernel
theorem dX5_wrongPlan_57 : decode cX5_wrongPlan 57 = .ok (.iconst 0, 1) := by decide +kernel
theorem dX5_wrongPlan_58 : decode cX5_wrongPlan 58 = .ok (.iadd, 1) := by decide +kernel
theorem dX5_wrongPlan_59 : decode cX5_wrongPlan 59 = .ok (.istore_n 3, 1) := by decide +kernel
theorem dX5_wrongPlan_60 : decode cX5_wrongPlan 60 = .ok (.iinc 4 1, 3) := by decide +kernel
theorem dX5_wrongPlan_63 : decode cX5_wrongPlan 63 = .ok (.goto (-27), 3) := by decide +kernel
theorem dX5_wrongPlan_66 : decode cX5_wrongPlan 66 = .ok (.aload_n 0, 1) := by decide +kernel
theorem dX5_wrongPlan_67 : decode cX5_wrongPlan 67 = .ok (.getfield 7, 3) := by decide +kernel
theorem dX5_wrongPlan_70 : decode cX5_wrongPlan 70 = .ok (.bipush 14, 2) := by decide +kernel
theorem dX5_wrongPlan_72 : decode cX5_wrongPlan 72 = .ok (.iaload, 1) := by decide +kernel
theorem dX5_wrongPlan_73 : decode cX5_wrongPlan 73 = .ok (.iconst 3, 1) := by decide +kernel
theorem dX5_wrongPlan_74 : decode cX5_wrongPlan 74 = .ok (.if_icmp .gt 8, 3) := by decide +kernel
theorem dX5_wrongPlan_77 : decode cX5_wrongPlan 77 = .ok (.iload_n 3, 1) := by decide +kernel
theorem dX5_wrongPlan_78 : decode cX5_wrongPlan 78 = .ok (.iconst 5, 1) := by decide +kernel
theorem dX5_wrongPlan_79 : decode cX5_wrongPlan 79 = .ok (.if_icmp .le 6, 3) := by decide +kernel
theorem dX5_wrongPlan_82 : decode cX5_wrongPlan 82 = .ok (.bipush (-9), 2) := by decide +kernel
theorem dX5_wrongPlan_84 : decode cX5_wrongPlan 84 = .ok (.ireturn, 1) := by decide +kernel
theorem dX5_wrongPlan_85 : decode cX5_wrongPlan 85 = .ok (.aload_n 0, 1) := by decide +kernel
theorem dX5_wrongPlan_86 : decode cX5_wrongPlan 86 = .ok (.invokevirtual 216, 3) := by decide +kernel
theorem dX5_wrongPlan_89 : decode cX5_wrongPlan 89 = .ok (.aload_n 0, 1) := by decide +kernel
theorem dX5_wrongPlan_90 : decode cX5_wrongPlan 90 = .ok (.getfield 23, 3) := by decide +kernel
theorem dX5_wrongPlan_93 : decode cX5_wrongPlan 93 = .ok (.bipush 12, 2) := by decide +kernel
theorem dX5_wrongPlan_95 : decode cX5_wrongPlan 95 = .ok (.iload_n 1, 1) := by decide +kernel
theorem dX5_wrongPlan_96 : decode cX5_wrongPlan 96 = .ok (.imul, 1) := by decide +kernel
theorem dX5_wrongPlan_97 : decode cX5_wrongPlan 97 = .ok (.iload_n 2, 1) := by decide +kernel
theorem dX5_wrongPlan_98 : decode cX5_wrongPlan 98 = .ok (.iadd, 1) := by decide +kernel
theorem dX5_wrongPlan_99 : decode cX5_wrongPlan 99 = .ok (.if_icmp .eq 19, 3) := by decide +kernel
theorem dX5_wrongPlan_102 : decode cX5_wrongPlan 102 = .ok (.aload_n 0, 1) := by decide +kernel
theorem dX5_wrongPlan_103 : decode cX5_wrongPlan 103 = .ok (.iload_n 1, 1) := by decide +kernel
theorem dX5_wrongPlan_104 : decode cX5_wrongPlan 104 = .ok (.iload_n 2, 1) := by decide +kernel
theorem dX5_wrongPlan_105 : decode cX5_wrongPlan 105 = .ok (.invokevirtual 219, 3) := by decide +kernel
theorem dX5_wrongPlan_108 : decode cX5_wrongPlan 108 = .ok (.aload_n 0, 1) := by decide +kernel
theorem dX5_wrongPlan_109 : decode cX5_wrongPlan 109 = .ok (.bipush 12, 2) := by decide +kernel
theorem dX5_wrongPlan_111 : decode cX5_wrongPlan 111 = .ok (.iload_n 1, 1) := by decide +kernel
theorem dX5_wrongPlan_112 : decode cX5_wrongPlan 112 = .ok (.imul, 1) := by decide +kernel
theorem dX5_wrongPlan_113 : decode cX5_wrongPlan 113 = .ok (.iload_n 2, 1) := by decide +kernel
theorem dX5_wrongPlan_114 : decode cX5_wrongPlan 114 = .ok (.iadd, 1) := by decide +kernel
theorem dX5_wrongPlan_115 : decode cX5_wrongPlan 115 = .ok (.putfield 23, 3) := by decide +kernel
theorem dX5_wrongPlan_118 : decode cX5_wrongPlan 118 = .ok (.iconst 0, 1) := by decide +kernel
theorem dX5_wrongPlan_119 : decode cX5_wrongPlan 119 = .ok (.ireturn, 1) := by decide +kernel
theorem dX5_fewestTurns_0 : decode cX5_fewestTurns 0 = .ok (.aload_n 0, 1) := by decide +kernel
theorem dX5_fewestTurns_1 : decode cX5_fewestTurns 1 = .ok (.iload_n 1, 1) := by decide +kernel
theorem dX5_fewestTurns_2 : decode cX5_fewestTurns 2 = .ok (.iload_n 2, 1) := by decide +kernel
theorem dX5_fewestTurns_3 : decode cX5_fewestTurns 3 = .ok (.invokevirtual 222, 3) := by decide +kernel
theorem dX5_fewestTurns_6 : decode cX5_fewestTurns 6 = .ok (.istore_n 3, 1) := by decide +kernel
theorem dX5_fewestTurns_7 : decode cX5_fewestTurns 7 = .ok (.iload_n 3, 1) := by decide +kernel
theorem dX5_fewestTurns_8 : decode cX5_fewestTurns 8 = .ok (.ifCond .eq 5, 3) := by decide +kernel
theorem dX5_fewestTurns_11 : decode cX5_fewestTurns 11 = .ok (.iload_n 3, 1) := by decide +kernel
theorem dX5_fewestTurns_12 : decode cX5_fewestTurns 12 = .ok (.ireturn, 1) := by decide +kernel
theorem dX5_fewestTurns_13 : decode cX5_fewestTurns 13 = .ok (.aload_n 0, 1) := by decide +kernel
theorem dX5_fewestTurns_14 : decode cX5_fewestTurns 14 = .ok (.invokevirtual 225, 3) := by decide +kernel
theorem dX5_fewestTurns_17 : decode cX5_fewestTurns 17 = .ok (.istore 4, 2) := by decide +kernel
theorem dX5_fewestTurns_19 : decode cX5_fewestTurns 19 = .ok (.aload_n 0, 1) := by decide +kernel
theorem dX5_fewestTurns_20 : decode cX5_fewestTurns 20 = .ok (.getfield 57, 3) := by decide +kernel
theorem dX5_fewestTurns_23 : decode cX5_fewestTurns 23 = .ok (.iload 4, 2) := by decide +kernel
theorem dX5_fewestTurns_25 : decode cX5_fewestTurns 25 = .ok (.baload, 1) := by decide +kernel
theorem dX5_fewestTurns_26 : decode cX5_fewestTurns 26 = .ok (.ifCond .eq 13, 3) := by decide +kernel
theorem dX5_fewestTurns_29 : decode cX5_fewestTurns 29 = .ok (.aload_n 0, 1) := by decide +kernel
theorem dX5_fewestTurns_30 : decode cX5_fewestTurns 30 = .ok (.getfield 51, 3) := by decide +kernel
theorem dX5_fewestTurns_33 : decode cX5_fewestTurns 33 = .ok (.iload 4, 2) := by decide +kernel
theorem dX5_fewestTurns_35 : decode cX5_fewestTurns 35 = .ok (.iaload, 1) := by decide +kernel
theorem dX5_fewestTurns_36 : decode cX5_fewestTurns 36 = .ok (.goto 5, 3) := by decide +kernel
theorem dX5_fewestTurns_39 : decode cX5_fewestTurns 39 = .ok (.bipush (-11), 2) := by decide +kernel
theorem dX5_fewestTurns_41 : decode cX5_fewestTurns 41 = .ok (.ireturn, 1) := by decide +kernel
theorem dX5_bestAction_0 : decode cX5_bestAction 0 = .ok (.iconst 0, 1) := by decide +kernel
theorem dX5_bestAction_1 : decode cX5_bestAction 1 = .ok (.istore_n 2, 1) := by decide +kernel
theorem dX5_bestAction_2 : decode cX5_bestAction 2 = .ok (.iload_n 2, 1) := by decide +kernel
theorem dX5_bestAction_3 : decode cX5_bestAction 3 = .ok (.bipush 45, 2) := by decide +kernel
theorem dX5_bestAction_5 : decode cX5_bestAction 5 = .ok (.if_icmp .ge 129, 3) := by decide +kernel
theorem dX5_bestAction_8 : decode cX5_bestAction 8 = .ok (.iload_n 2, 1) := by decide +kernel
theorem dX5_bestAction_9 : decode cX5_bestAction 9 = .ok (.iconst 2, 1) := by decide +kernel
theorem dX5_bestAction_10 : decode cX5_bestAction 10 = .ok (.if_icmp .lt 21, 3) := by decide +kernel
theorem dX5_bestAction_13 : decode cX5_bestAction 13 = .ok (.iload_n 2, 1) := by decide +kernel
theorem dX5_bestAction_14 : decode cX5_bestAction 14 = .ok (.bipush 10, 2) := by decide +kernel
theorem dX5_bestAction_16 : decode cX5_bestAction 16 = .ok (.irem, 1) := by decide +kernel
theorem dX5_bestAction_17 : decode cX5_bestAction 17 = .ok (.iconst 1, 1) := by decide +kernel
theorem dX5_bestAction_18 : decode cX5_bestAction 18 = .ok (.iconst 3, 1) := by decide +kernel
theorem dX5_bestAction_19 : decode cX5_bestAction 19 = .ok (.invokestatic 84, 3) := by decide +kernel
theorem dX5_bestAction_22 : decode cX5_bestAction 22 = .ok (.ifCond .eq 13, 3) := by decide +kernel
theorem dX5_bestAction_25 : decode cX5_bestAction 25 = .ok (.iload_n 2, 1) := by decide +kernel
theorem dX5_bestAction_26 : decode cX5_bestAction 26 = .ok (.bipush 10, 2) := by decide +kernel
theorem dX5_bestAction_28 : decode cX5_bestAction 28 = .ok (.if_icmp .le 7, 3) := by decide +kernel
theorem dX5_bestAction_31 : decode cX5_bestAction 31 = .ok (.iconst 1, 1) := by decide +kernel
theorem dX5_bestAction_32 : decode cX5_bestAction 32 = .ok (.goto 4, 3) := by decide +kernel
theorem dX5_bestAction_35 : decode cX5_bestAction 35 = .ok (.iconst 0, 1) := by decide +kernel
theorem dX5_bestAction_36 : decode cX5_bestAction 36 = .ok (.istore_n 3, 1) := by decide +kernel
theorem dX5_bestAction_37 : decode cX5_bestAction 37 = .ok (.iload_n 3, 1) := by decide +kernel
theorem dX5_bestAction_38 : decode cX5_bestAction 38 = .ok (.ifCond .eq 12, 3) := by decide +kernel
theorem dX5_bestAction_41 : decode cX5_bestAction 41 = .ok (.aload_n 0, 1) := by decide +kernel
theorem dX5_bestAction_42 : decode cX5_bestAction 42 = .ok (.iload_n 1, 1) := by decide +kernel
theorem dX5_bestAction_43 : decode cX5_bestAction 43 = .ok (.iload_n 2, 1) := by decide +kernel
theorem dX5_bestAction_44 : decode cX5_bestAction 44 = .ok (.invokevirtual 184, 3) := by decide +kernel
theorem dX5_bestAction_47 : decode cX5_bestAction 47 = .ok (.goto 5, 3) := by decide +kernel
theorem dX5_bestAction_50 : decode cX5_bestAction 50 = .ok (.bipush (-11), 2) := by decide +kernel
theorem dX5_bestAction_52 : decode cX5_bestAction 52 = .ok (.istore 4, 2) := by decide +kernel
theorem dX5_bestAction_54 : decode cX5_bestAction 54 = .ok (.iload 4, 2) := by decide +kernel
theorem dX5_bestAction_56 : decode cX5_bestAction 56 = .ok (.ifCond .lt 62, 3) := by decide +kernel
theorem dX5_bestAction_59 : decode cX5_bestAction 59 = .ok (.aload_n 0, 1) := by decide +kernel
theorem dX5_bestAction_60 : decode cX5_bestAction 60 = .ok (.getfield 57, 3) := by decide +kernel
theorem dX5_bestAction_63 : decode cX5_bestAction 63 = .ok (.iload 4, 2) := by decide +kernel
theorem dX5_bestAction_65 : decode cX5_bestAction 65 = .ok (.baload, 1) := by decide +kernel
theorem dX5_bestAction_66 : decode cX5_bestAction 66 = .ok (.ifCond .eq 52, 3) := by decide +kernel
theorem dX5_bestAction_69 : decode cX5_bestAction 69 = .ok (.aload_n 0, 1) := by decide +kernel
theorem dX5_bestAction_70 : decode cX5_bestAction 70 = .ok (.getfield 54, 3) := by decide +kernel
theorem dX5_bestAction_73 : decode cX5_bestAction 73 = .ok (.iload 4, 2) := by decide +kernel
theorem dX5_bestAction_75 : decode cX5_bestAction 75 = .ok (.iaload, 1) := by decide +kernel
theorem dX5_bestAction_76 : decode cX5_bestAction 76 = .ok (.aload_n 0, 1) := by decide +kernel
theorem dX5_bestAction_77 : decode cX5_bestAction 77 = .ok (.getfield 54, 3) := by decide +kernel
theorem dX5_bestAction_80 : decode cX5_bestAction 80 = .ok (.iload_n 1, 1) := by decide +kernel
theorem dX5_bestAction_81 : decode cX5_bestAction 81 = .ok (.iaload, 1) := by decide +kernel
theorem dX5_bestAction_82 : decode cX5_bestAction 82 = .ok (.iconst 1, 1) := by decide +kernel
theorem dX5_bestAction_83 : decode cX5_bestAction 83 = .ok (.isub, 1) := by decide +kernel
theorem dX5_bestAction_84 : decode cX5_bestAction 84 = .ok (.if_icmp .ne 34, 3) := by decide +kernel
theorem dX5_bestAction_87 : decode cX5_bestAction 87 = .ok (.aload_n 0, 1) := by decide +kernel
theorem dX5_bestAction_88 : decode cX5_bestAction 88 = .ok (.getfield 51, 3) := by decide +kernel
theorem dX5_bestAction_91 : decode cX5_bestAction 91 = .ok (.iload 4, 2) := by decide +kernel
theorem dX5_bestAction_93 : decode cX5_bestAction 93 = .ok (.iaload, 1) := by decide +kernel
theorem dX5_bestAction_94 : decode cX5_bestAction 94 = .ok (.aload_n 0, 1) := by decide +kernel
theorem dX5_bestAction_95 : decode cX5_bestAction 95 = .ok (.getfield 51, 3) := by decide +kernel
theorem dX5_bestAction_98 : decode cX5_bestAction 98 = .ok (.iload_n 1, 1) := by decide +kernel
theorem dX5_bestAction_99 : decode cX5_bestAction 99 = .ok (.iaload, 1) := by decide +kernel
theorem dX5_bestAction_100 : decode cX5_bestAction 100 = .ok (.iload_n 2, 1) := by decide +kernel
theorem dX5_bestAction_101 : decode cX5_bestAction 101 = .ok (.iconst 2, 1) := by decide +kernel
theorem dX5_bestAction_102 : decode cX5_bestAction 102 = .ok (.if_icmp .ge 7, 3) := by decide +kernel
theorem dX5_bestAction_105 : decode cX5_bestAction 105 = .ok (.iconst 1, 1) := by decide +kernel
theorem dX5_bestAction_106 : decode cX5_bestAction 106 = .ok (.goto 4, 3) := by decide +kernel
theorem dX5_bestAction_109 : decode cX5_bestAction 109 = .ok (.iconst 0, 1) := by decide +kernel
theorem dX5_bestAction_110 : decode cX5_bestAction 110 = .ok (.isub, 1) := by decide +kernel
theorem dX5_bestAction_111 : decode cX5_bestAction 111 = .ok (.if_icmp .ne 7, 3) := by decide +kernel
theorem dX5_bestAction_114 : decode cX5_bestAction 114 = .ok (.iconst 1, 1) := by decide +kernel
theorem dX5_bestAction_115 : decode cX5_bestAction 115 = .ok (.goto 4, 3) := by decide +kernel
theorem dX5_bestAction_118 : decode cX5_bestAction 118 = .ok (.iconst 0, 1) := by decide +kernel
theorem dX5_bestAction_119 : decode cX5_bestAction 119 = .ok (.istore 5, 2) := by decide +kernel
theorem dX5_bestAction_121 : decode cX5_bestAction 121 = .ok (.iload 5, 2) := by decide +kernel
theorem dX5_bestAction_123 : decode cX5_bestAction 123 = .ok (.ifCond .eq 5, 3) := by decide +kernel
theorem dX5_bestAction_126 : decode cX5_bestAction 126 = .ok (.iload_n 2, 1) := by decide +kernel
theorem dX5_bestAction_127 : decode cX5_bestAction 127 = .ok (.ireturn, 1) := by decide +kernel
theorem dX5_bestAction_128 : decode cX5_bestAction 128 = .ok (.iinc 2 1, 3) := by decide +kernel
theorem dX5_bestAction_131 : decode cX5_bestAction 131 = .ok (.goto (-129), 3) := by decide +kernel
theorem dX5_bestAction_134 : decode cX5_bestAction 134 = .ok (.bipush (-11), 2) := by decide +kernel
theorem dX5_bestAction_136 : decode cX5_bestAction 136 = .ok (.ireturn, 1) := by decide +kernel
theorem dX5_plan_0 : decode cX5_plan 0 = .ok (.aload_n 0, 1) := by decide +kernel
theorem dX5_plan_1 : decode cX5_plan 1 = .ok (.iload_n 1, 1) := by decide +kernel
theorem dX5_plan_2 : decode cX5_plan 2 = .ok (.iload_n 2, 1) := by decide +kernel
theorem dX5_plan_3 : decode cX5_plan 3 = .ok (.invokevirtual 222, 3) := by decide +kernel
theorem dX5_plan_6 : decode cX5_plan 6 = .ok (.istore 4, 2) := by decide +kernel
theorem dX5_plan_8 : decode cX5_plan 8 = .ok (.iload 4, 2) := by decide +kernel
theorem dX5_plan_10 : decode cX5_plan 10 = .ok (.ifCond .eq 6, 3) := by decide +kernel
theorem dX5_plan_13 : decode cX5_plan 13 = .ok (.iload 4, 2) := by decide +kernel
theorem dX5_plan_15 : decode cX5_plan 15 = .ok (.ireturn, 1) := by decide +kernel
theorem dX5_plan_16 : decode cX5_plan 16 = .ok (.aload_n 0, 1) := by decide +kernel
theorem dX5_plan_17 : decode cX5_plan 17 = .ok (.invokevirtual 225, 3) := by decide +kernel
theorem dX5_plan_20 : decode cX5_plan 20 = .ok (.istore 5, 2) := by decide +kernel
theorem dX5_plan_22 : decode cX5_plan 22 = .ok (.aload_n 0, 1) := by decide +kernel
theorem dX5_plan_23 : decode cX5_plan 23 = .ok (.getfield 57, 3) := by decide +kernel
theorem dX5_plan_26 : decode cX5_plan 26 = .ok (.iload 5, 2) := by decide +kernel
theorem dX5_plan_28 : decode cX5_plan 28 = .ok (.baload, 1) := by decide +kernel
theorem dX5_plan_29 : decode cX5_plan 29 = .ok (.ifCond .ne 6, 3) := by decide +kernel
theorem dX5_plan_32 : decode cX5_plan 32 = .ok (.bipush (-11), 2) := by decide +kernel
theorem dX5_plan_34 : decode cX5_plan 34 = .ok (.ireturn, 1) := by decide +kernel
theorem dX5_plan_35 : decode cX5_plan 35 = .ok (.iload_n 3, 1) := by decide +kernel
theorem dX5_plan_36 : decode cX5_plan 36 = .ok (.iconst (-1), 1) := by decide +kernel
theorem dX5_plan_37 : decode cX5_plan 37 = .ok (.if_icmp .ne 11, 3) := by decide +kernel
theorem dX5_plan_40 : decode cX5_plan 40 = .ok (.aload_n 0, 1) := by decide +kernel
theorem dX5_plan_41 : decode cX5_plan 41 = .ok (.getfield 54, 3) := by decide +kernel
theorem dX5_plan_44 : decode cX5_plan 44 = .ok (.iload 5, 2) := by decide +kernel
theorem dX5_plan_46 : decode cX5_plan 46 = .ok (.iaload, 1) := by decide +kernel
theorem dX5_plan_47 : decode cX5_plan 47 = .ok (.ireturn, 1) := by decide +kernel
theorem dX5_plan_48 : decode cX5_plan 48 = .ok (.iload_n 3, 1) := by decide +kernel
theorem dX5_plan_49 : decode cX5_plan 49 = .ok (.iconst 0, 1) := by decide +kernel
theorem dX5_plan_50 : decode cX5_plan 50 = .ok (.aload_n 0, 1) := by decide +kernel
theorem dX5_plan_51 : decode cX5_plan 51 = .ok (.getfield 54, 3) := by decide +kernel
theorem dX5_plan_54 : decode cX5_plan 54 = .ok (.iload 5, 2) := by decide +kernel
theorem dX5_plan_56 : decode cX5_plan 56 = .ok (.iaload, 1) := by decide +kernel
theorem dX5_plan_57 : decode cX5_plan 57 = .ok (.iconst 1, 1) := by decide +kernel
theorem dX5_plan_58 : decode cX5_plan 58 = .ok (.isub, 1) := by decide +kernel
theorem dX5_plan_59 : decode cX5_plan 59 = .ok (.invokestatic 84, 3) := by decide +kernel
theorem dX5_plan_62 : decode cX5_plan 62 = .ok (.ifCond .ne 6, 3) := by decide +kernel
theorem dX5_plan_65 : decode cX5_plan 65 = .ok (.bipush (-11), 2) := by decide +kernel
theorem dX5_plan_67 : decode cX5_plan 67 = .ok (.ireturn, 1) := by decide +kernel
theorem dX5_plan_68 : decode cX5_plan 68 = .ok (.aload_n 0, 1) := by decide +kernel
theorem dX5_plan_69 : decode cX5_plan 69 = .ok (.iload 5, 2) := by decide +kernel
theorem dX5_plan_71 : decode cX5_plan 71 = .ok (.invokevirtual 228, 3) := by decide +kernel
theorem dX5_plan_74 : decode cX5_plan 74 = .ok (.istore 6, 2) := by decide +kernel
theorem dX5_plan_76 : decode cX5_plan 76 = .ok (.iconst 0, 1) := by decide +kernel
theorem dX5_plan_77 : decode cX5_plan 77 = .ok (.istore 7, 2) := by decide +kernel
theorem dX5_plan_79 : decode cX5_plan 79 = .ok (.iload 7, 2) := by decide +kernel
theorem dX5_plan_81 : decode cX5_plan 81 = .ok (.iload_n 3, 1) := by decide +kernel
theorem dX5_plan_82 : decode cX5_plan 82 = .ok (.if_icmp .ge 27, 3) := by decide +kernel
theorem dX5_plan_85 : decode cX5_plan 85 = .ok (.aload_n 0, 1) := by decide +kernel
theorem dX5_plan_86 : decode cX5_plan 86 = .ok (.iload 5, 2) := by decide +kernel
theorem dX5_plan_88 : decode cX5_plan 88 = .ok (.iload 6, 2) := by decide +kernel
theorem dX5_plan_90 : decode cX5_plan 90 = .ok (.invokevirtual 184, 3) := by decide +kernel
theorem dX5_plan_93 : decode cX5_plan 93 = .ok (.istore 5, 2) := by decide +kernel
theorem dX5_plan_95 : decode cX5_plan 95 = .ok (.aload_n 0, 1) := by decide +kernel
theorem dX5_plan_96 : decode cX5_plan 96 = .ok (.iload 5, 2) := by decide +kernel
theorem dX5_plan_98 : decode cX5_plan 98 = .ok (.invokevirtual 228, 3) := by decide +kernel
theorem dX5_plan_101 : decode cX5_plan 101 = .ok (.istore 6, 2) := by decide +kernel
theorem dX5_plan_103 : decode cX5_plan 103 = .ok (.iinc 7 1, 3) := by decide +kernel
theorem dX5_plan_106 : decode cX5_plan 106 = .ok (.goto (-27), 3) := by decide +kernel
theorem dX5_plan_109 : decode cX5_plan 109 = .ok (.iload 6, 2) := by decide +kernel
theorem dX5_plan_111 : decode cX5_plan 111 = .ok (.ireturn, 1) := by decide +kernel
