theorem dX5_layRows_0 : decode cX5_layRows 0 = .ok (.aload_n 0, 1) := by decide +kernel
theorem dX5_layRows_1 : decode cX5_layRows 1 = .ok (.iconst 0, 1) := by decide +kernel
theorem dX5_layRows_2 : decode cX5_layRows 2 = .ok (.putfield 152, 3) := by decide +kernel
theorem dX5_layRows_5 : decode cX5_layRows 5 = .ok (.aload_n 0, 1) := by decide +kernel
theorem dX5_layRows_6 : decode cX5_layRows 6 = .ok (.getfield 39, 3) := by decide +kernel
theorem dX5_layRows_9 : decode cX5_layRows 9 = .ok (.iconst 0, 1) := by decide +kernel
theorem dX5_layRows_10 : decode cX5_layRows 10 = .ok (.bipush 12, 2) := by decide +kernel
theorem dX5_layRows_12 : decode cX5_layRows 12 = .ok (.iastore, 1) := by decide +kernel
theorem dX5_layRows_13 : decode cX5_layRows 13 = .ok (.aload_n 0, 1) := by decide +kernel
theorem dX5_layRows_14 : decode cX5_layRows 14 = .ok (.getfield 42, 3) := by decide +kernel
theorem dX5_layRows_17 : decode cX5_layRows 17 = .ok (.bipush 12, 2) := by decide +kernel
theorem dX5_layRows_19 : decode cX5_layRows 19 = .ok (.iconst 0, 1) := by decide +kernel
theorem dX5_layRows_20 : decode cX5_layRows 20 = .ok (.iastore, 1) := by decide +kernel
theorem dX5_layRows_21 : decode cX5_layRows 21 = .ok (.iconst 0, 1) := by decide +kernel
theorem dX5_layRows_22 : decode cX5_layRows 22 = .ok (.istore_n 1, 1) := by decide +kernel
theorem dX5_layRows_23 : decode cX5_layRows 23 = .ok (.iload_n 1, 1) := by decide +kernel
theorem dX5_layRows_24 : decode cX5_layRows 24 = .ok (.bipush 12, 2) := by decide +kernel
theorem dX5_layRows_26 : decode cX5_layRows 26 = .ok (.if_icmp .ge 54, 3) := by decide +kernel
theorem dX5_layRows_29 : decode cX5_layRows 29 = .ok (.aload_n 0, 1) := by decide +kernel
theorem dX5_layRows_30 : decode cX5_layRows 30 = .ok (.getfield 42, 3) := by decide +kernel
theorem dX5_layRows_33 : decode cX5_layRows 33 = .ok (.iload_n 1, 1) := by decide +kernel
theorem dX5_layRows_34 : decode cX5_layRows 34 = .ok (.iconst 0, 1) := by decide +kernel
theorem dX5_layRows_35 : decode cX5_layRows 35 = .ok (.iastore, 1) := by decide +kernel
theorem dX5_layRows_36 : decode cX5_layRows 36 = .ok (.aload_n 0, 1) := by decide +kernel
theorem dX5_layRows_37 : decode cX5_layRows 37 = .ok (.iload_n 1, 1) := by decide +kernel
theorem dX5_layRows_38 : decode cX5_layRows 38 = .ok (.invokevirtual 103, 3) := by decide +kernel
theorem dX5_layRows_41 : decode cX5_layRows 41 = .ok (.ifCond .eq 33, 3) := by decide +kernel
theorem dX5_layRows_44 : decode cX5_layRows 44 = .ok (.aload_n 0, 1) := by decide +kernel
theorem dX5_layRows_45 : decode cX5_layRows 45 = .ok (.dup, 1) := by decide +kernel
theorem dX5_layRows_46 : decode cX5_layRows 46 = .ok (.getfield 152, 3) := by decide +kernel
theorem dX5_layRows_49 : decode cX5_layRows 49 = .ok (.iconst 1, 1) := by decide +kernel
theorem dX5_layRows_50 : decode cX5_layRows 50 = .ok (.iadd, 1) := by decide +kernel
theorem dX5_layRows_51 : decode cX5_layRows 51 = .ok (.putfield 152, 3) := by decide +kernel
theorem dX5_layRows_54 : decode cX5_layRows 54 = .ok (.aload_n 0, 1) := by decide +kernel
theorem dX5_layRows_55 : decode cX5_layRows 55 = .ok (.getfield 42, 3) := by decide +kernel
theorem dX5_layRows_58 : decode cX5_layRows 58 = .ok (.iload_n 1, 1) := by decide +kernel
theorem dX5_layRows_59 : decode cX5_layRows 59 = .ok (.aload_n 0, 1) := by decide +kernel
theorem dX5_layRows_60 : decode cX5_layRows 60 = .ok (.getfield 152, 3) := by decide +kernel
theorem dX5_layRows_63 : decode cX5_layRows 63 = .ok (.iastore, 1) := by decide +kernel
theorem dX5_layRows_64 : decode cX5_layRows 64 = .ok (.aload_n 0, 1) := by decide +kernel
theorem dX5_layRows_65 : decode cX5_layRows 65 = .ok (.getfield 39, 3) := by decide +kernel
theorem dX5_layRows_68 : decode cX5_layRows 68 = .ok (.aload_n 0, 1) := by decide +kernel
theorem dX5_layRows_69 : decode cX5_layRows 69 = .ok (.getfield 152, 3) := by decide +kernel
theorem dX5_layRows_72 : decode cX5_layRows 72 = .ok (.iload_n 1, 1) := by decide +kernel
theorem dX5_layRows_73 : decode cX5_layRows 73 = .ok (.iastore, 1) := by decide +kernel
theorem dX5_layRows_74 : decode cX5_layRows 74 = .ok (.iinc 1 1, 3) := by decide +kernel
theorem dX5_layRows_77 : decode cX5_layRows 77 = .ok (.goto (-54), 3) := by decide +kernel
theorem dX5_layRows_80 : decode cX5_layRows 80 = .ok (.return_, 1) := by decide +kernel
theorem dX5_numberOf_0 : decode cX5_numberOf 0 = .ok (.iconst 0, 1) := by decide +kernel
theorem dX5_numberOf_1 : decode cX5_numberOf 1 = .ok (.istore_n 1, 1) := by decide +kernel
theorem dX5_numberOf_2 : decode cX5_numberOf 2 = .ok (.iconst 1, 1) := by decide +kernel
theorem dX5_numberOf_3 : decode cX5_numberOf 3 = .ok (.istore_n 2, 1) := by decide +kernel
theorem dX5_numberOf_4 : decode cX5_numberOf 4 = .ok (.iconst 0, 1) := by decide +kernel
theorem dX5_numberOf_5 : decode cX5_numberOf 5 = .ok (.istore_n 3, 1) := by decide +kernel
theorem dX5_numberOf_6 : decode cX5_numberOf 6 = .ok (.iconst 1, 1) := by decide +kernel
theorem dX5_numberOf_7 : decode cX5_numberOf 7 = .ok (.istore 4, 2) := by decide +kernel
theorem dX5_numberOf_9 : decode cX5_numberOf 9 = .ok (.iconst 0, 1) := by decide +kernel
theorem dX5_numberOf_10 : decode cX5_numberOf 10 = .ok (.istore 5, 2) := by decide +kernel
theorem dX5_numberOf_12 : decode cX5_numberOf 12 = .ok (.iload 5, 2) := by decide +kernel
theorem dX5_numberOf_14 : decode cX5_numberOf 14 = .ok (.bipush 6, 2) := by decide +kernel
theorem dX5_numberOf_16 : decode cX5_numberOf 16 = .ok (.if_icmp .ge 70, 3) := by decide +kernel
theorem dX5_numberOf_19 : decode cX5_numberOf 19 = .ok (.iconst 0, 1) := by decide +kernel
theorem dX5_numberOf_20 : decode cX5_numberOf 20 = .ok (.istore 6, 2) := by decide +kernel
theorem dX5_numberOf_22 : decode cX5_numberOf 22 = .ok (.iload 6, 2) := by decide +kernel
theorem dX5_numberOf_24 : decode cX5_numberOf 24 = .ok (.aload_n 0, 1) := by decide +kernel
theorem dX5_numberOf_25 : decode cX5_numberOf 25 = .ok (.getfield 48, 3) := by decide +kernel
theorem dX5_numberOf_28 : decode cX5_numberOf 28 = .ok (.iload 5, 2) := by decide +kernel
theorem dX5_numberOf_30 : decode cX5_numberOf 30 = .ok (.iaload, 1) := by decide +kernel
theorem dX5_numberOf_31 : decode cX5_numberOf 31 = .ok (.if_icmp .ge 30, 3) := by decide +kernel
theorem dX5_numberOf_34 : decode cX5_numberOf 34 = .ok (.iload_n 1, 1) := by decide +kernel
theorem dX5_numberOf_35 : decode cX5_numberOf 35 = .ok (.iload_n 2, 1) := by decide +kernel
theorem dX5_numberOf_36 : decode cX5_numberOf 36 = .ok (.aload_n 0, 1) := by decide +kernel
theorem dX5_numberOf_37 : decode cX5_numberOf 37 = .ok (.getfield 45, 3) := by decide +kernel
theorem dX5_numberOf_40 : decode cX5_numberOf 40 = .ok (.iconst 4, 1) := by decide +kernel
theorem dX5_numberOf_41 : decode cX5_numberOf 41 = .ok (.iload 5, 2) := by decide +kernel
theorem dX5_numberOf_43 : decode cX5_numberOf 43 = .ok (.imul, 1) := by decide +kernel
theorem dX5_numberOf_44 : decode cX5_numberOf 44 = .ok (.iload 6, 2) := by decide +kernel
theorem dX5_numberOf_46 : decode cX5_numberOf 46 = .ok (.iadd, 1) := by decide +kernel
theorem dX5_numberOf_47 : decode cX5_numberOf 47 = .ok (.iaload, 1) := by decide +kernel
theorem dX5_numberOf_48 : decode cX5_numberOf 48 = .ok (.imul, 1) := by decide +kernel
theorem dX5_numberOf_49 : decode cX5_numberOf 49 = .ok (.iadd, 1) := by decide +kernel
theorem dX5_numberOf_50 : decode cX5_numberOf 50 = .ok (.istore_n 1, 1) := by decide +kernel
theorem dX5_numberOf_51 : decode cX5_numberOf 51 = .ok (.iload_n 2, 1) := by decide +kernel
theorem dX5_numberOf_52 : decode cX5_numberOf 52 = .ok (.iconst 4, 1) := by decide +kernel
theorem dX5_numberOf_53 : decode cX5_numberOf 53 = .ok (.imul, 1) := by decide +kernel
theorem dX5_numberOf_54 : decode cX5_numberOf 54 = .ok (.istore_n 2, 1) := by decide +kernel
theorem dX5_numberOf_55 : decode cX5_numberOf 55 = .ok (.iinc 6 1, 3) := by decide +kernel
theorem dX5_numberOf_58 : decode cX5_numberOf 58 = .ok (.goto (-36), 3) := by decide +kernel
theorem dX5_numberOf_61 : decode cX5_numberOf 61 = .ok (.iload_n 3, 1) := by decide +kernel
theorem dX5_numberOf_62 : decode cX5_numberOf 62 = .ok (.iload 4, 2) := by decide +kernel
theorem dX5_numberOf_64 : decode cX5_numberOf 64 = .ok (.aload_n 0, 1) := by decide +kernel
theorem dX5_numberOf_65 : decode cX5_numberOf 65 = .ok (.getfield 48, 3) := by decide +kernel
theorem dX5_numberOf_68 : decode cX5_numberOf 68 = .ok (.iload 5, 2) := by decide +kernel
theorem dX5_numberOf_70 : decode cX5_numberOf 70 = .ok (.iaload, 1) := by decide +kernel
theorem dX5_numberOf_71 : decode cX5_numberOf 71 = .ok (.imul, 1) := by decide +kernel
theorem dX5_numberOf_72 : decode cX5_numberOf 72 = .ok (.iadd, 1) := by decide +kernel
theorem dX5_numberOf_73 : decode cX5_numberOf 73 = .ok (.istore_n 3, 1) := by decide +kernel
theorem dX5_numberOf_74 : decode cX5_numberOf 74 = .ok (.iload 4, 2) := by decide +kernel
theorem dX5_numberOf_76 : decode cX5_numberOf 76 = .ok (.iconst 5, 1) := by decide +kernel
theorem dX5_numberOf_77 : decode cX5_numberOf 77 = .ok (.imul, 1) := by decide +kernel
theorem dX5_numberOf_78 : decode cX5_numberOf 78 = .ok (.istore 4, 2) := by decide +kernel
theorem dX5_numberOf_80 : decode cX5_numberOf 80 = .ok (.iinc 5 1, 3) := by decide +kernel
theorem dX5_numberOf_83 : decode cX5_numberOf 83 = .ok (.goto (-71), 3) := by decide +kernel
theorem dX5_numberOf_86 : decode cX5_numberOf 86 = .ok (.aload_n 0, 1) := by decide +kernel
theorem dX5_numberOf_87 : decode cX5_numberOf 87 = .ok (.getfield 30, 3) := by decide +kernel
theorem dX5_numberOf_90 : decode cX5_numberOf 90 = .ok (.iload_n 1, 1) := by decide +kernel
theorem dX5_numberOf_91 : decode cX5_numberOf 91 = .ok (.iaload, 1) := by decide +kernel
theorem dX5_numberOf_92 : decode cX5_numberOf 92 = .ok (.bipush 56, 2) := by decide +kernel
theorem dX5_numberOf_94 : decode cX5_numberOf 94 = .ok (.imul, 1) := by decide +kernel
theorem dX5_numberOf_95 : decode cX5_numberOf 95 = .ok (.aload_n 0, 1) := by decide +kernel
theorem dX5_numberOf_96 : decode cX5_numberOf 96 = .ok (.getfield 36, 3) := by decide +kernel
theorem dX5_numberOf_99 : decode cX5_numberOf 99 = .ok (.iload_n 3, 1) := by decide +kernel
theorem dX5_numberOf_100 : decode cX5_numberOf 100 = .ok (.iaload, 1) := by decide +kernel
theorem dX5_numberOf_101 : decode cX5_numberOf 101 = .ok (.iadd, 1) := by decide +kernel
theorem dX5_numberOf_102 : decode cX5_numberOf 102 = .ok (.bipush 12, 2) := by decide +kernel
theorem dX5_numberOf_104 : decode cX5_numberOf 104 = .ok (.imul, 1) := by decide +kernel
theorem dX5_numberOf_105 : decode cX5_numberOf 105 = .ok (.aload_n 0, 1) := by decide +kernel
theorem dX5_numberOf_106 : decode cX5_numberOf 106 = .ok (.getfield 155, 3) := by decide +kernel
theorem dX5_numberOf_109 : decode cX5_numberOf 109 = .ok (.iadd, 1) := by decide +kernel
theorem dX5_numberOf_110 : decode cX5_numberOf 110 = .ok (.ireturn, 1) := by decide +kernel
theorem dX5_layOut_0 : decode cX5_layOut 0 = .ok (.aload_n 0, 1) := by decide +kernel
theorem dX5_layOut_1 : decode cX5_layOut 1 = .ok (.iload_n 1, 1) := by decide +kernel
theorem dX5_layOut_2 : decode cX5_layOut 2 = .ok (.bipush 12, 2) := by decide +kernel
theorem dX5_layOut_4 : decode cX5_layOut 4 = .ok (.irem, 1) := by decide +kernel
theorem dX5_layOut_5 : decode cX5_layOut 5 = .ok (.putfield 155, 3) := by decide +kernel
theorem dX5_layOut_8 : decode cX5_layOut 8 = .ok (.iload_n 1, 1) := by decide +kernel
theorem dX5_layOut_9 : decode cX5_layOut 9 = .ok (.bipush 12, 2) := by decide +kernel
theorem dX5_layOut_11 : decode cX5_layOut 11 = .ok (.idiv, 1) := by decide +kernel
theorem dX5_layOut_12 : decode cX5_layOut 12 = .ok (.bipush 56, 2) := by decide +kernel
theorem dX5_layOut_14 : decode cX5_layOut 14 = .ok (.irem, 1) := by decide +kernel
theorem dX5_layOut_15 : decode cX5_layOut 15 = .ok (.istore_n 2, 1) := by decide +kernel
theorem dX5_layOut_16 : decode cX5_layOut 16 = .ok (.iload_n 1, 1) := by decide +kernel
theorem dX5_layOut_17 : decode cX5_layOut 17 = .ok (.bipush 12, 2) := by decide +kernel
theorem dX5_layOut_19 : decode cX5_layOut 19 = .ok (.idiv, 1) := by decide +kernel
theorem dX5_layOut_20 : decode cX5_layOut 20 = .ok (.bipush 56, 2) := by decide +kernel
theorem dX5_layOut_22 : decode cX5_layOut 22 = .ok (.idiv, 1) := by decide +kernel
theorem dX5_layOut_23 : decode cX5_layOut 23 = .ok (.istore_n 3, 1) := by decide +kernel
theorem dX5_layOut_24 : decode cX5_layOut 24 = .ok (.iconst 0, 1) := by decide +kernel
theorem dX5_layOut_25 : decode cX5_layOut 25 = .ok (.istore 4, 2) := by decide +kernel
theorem dX5_layOut_27 : decode cX5_layOut 27 = .ok (.iconst 0, 1) := by decide +kernel
theorem dX5_layOut_28 : decode cX5_layOut 28 = .ok (.istore 5, 2) := by decide +kernel
theorem dX5_layOut_30 : decode cX5_layOut 30 = .ok (.iload 5, 2) := by decide +kernel
theorem dX5_layOut_32 : decode cX5_layOut 32 = .ok (.bipush 6, 2) := by decide +kernel
theorem dX5_layOut_34 : decode cX5_layOut 34 = .ok (.if_icmp .ge 75, 3) := by decide +kernel
theorem dX5_layOut_37 : decode cX5_layOut 37 = .ok (.aload_n 0, 1) := by decide +kernel
theorem dX5_layOut_38 : decode cX5_layOut 38 = .ok (.getfield 48, 3) := by decide +kernel
theorem dX5_layOut_41 : decode cX5_layOut 41 = .ok (.iload 5, 2) := by decide +kernel
theorem dX5_layOut_43 : decode cX5_layOut 43 = .ok (.aload_n 0, 1) := by decide +kernel
theorem dX5_layOut_44 : decode cX5_layOut 44 = .ok (.getfield 33, 3) := by decide +kernel
theorem dX5_layOut_47 : decode cX5_layOut 47 = .ok (.bipush 6, 2) := by decide +kernel
theorem dX5_layOut_49 : decode cX5_layOut 49 = .ok (.iload_n 2, 1) := by decide +kernel
theorem dX5_layOut_50 : decode cX5_layOut 50 = .ok (.imul, 1) := by decide +kernel
theorem dX5_layOut_51 : decode cX5_layOut 51 = .ok (.iload 5, 2) := by decide +kernel
theorem dX5_layOut_53 : decode cX5_layOut 53 = .ok (.iadd, 1) := by decide +kernel
theorem dX5_layOut_54 : decode cX5_layOut 54 = .ok (.iaload, 1) := by decide +kernel
theorem dX5_layOut_55 : decode cX5_layOut 55 = .ok (.iastore, 1) := by decide +kernel
theorem dX5_layOut_56 : decode cX5_layOut 56 = .ok (.iconst 0, 1) := by decide +kernel
theorem dX5_layOut_57 : decode cX5_layOut 57 = .ok (.istore 6, 2) := by decide +kernel
theorem dX5_layOut_59 : decode cX5_layOut 59 = .ok (.iload 6, 2) := by decide +kernel
theorem dX5_layOut_61 : decode cX5_layOut 61 = .ok (.aload_n 0, 1) := by decide +kernel
theorem dX5_layOut_62 : decode cX5_layOut 62 = .ok (.getfield 48, 3) := by decide +kernel
theorem dX5_layOut_65 : decode cX5_layOut 65 = .ok (.iload 5, 2) := by decide +kernel
theorem dX5_layOut_67 : decode cX5_layOut 67 = .ok (.iaload, 1) := by decide +kernel
theorem dX5_layOut_68 : decode cX5_layOut 68 = .ok (.if_icmp .ge 35, 3) := by decide +kernel
theorem dX5_layOut_71 : decode cX5_layOut 71 = .ok (.aload_n 0, 1) := by decide +kernel
theorem dX5_layOut_72 : decode cX5_layOut 72 = .ok (.getfield 45, 3) := by decide +kernel
theorem dX5_layOut_75 : decode cX5_layOut 75 = .ok (.iconst 4, 1) := by decide +kernel
theorem dX5_layOut_76 : decode cX5_layOut 76 = .ok (.iload 5, 2) := by decide +kernel
theorem dX5_layOut_78 : decode cX5_layOut 78 = .ok (.imul, 1) := by decide +kernel
theorem dX5_layOut_79 : decode cX5_layOut 79 = .ok (.iload 6, 2) := by decide +kernel
theorem dX5_layOut_81 : decode cX5_layOut 81 = .ok (.iadd, 1) := by decide +kernel
theorem dX5_layOut_82 : decode cX5_layOut 82 = .ok (.aload_n 0, 1) := by decide +kernel
theorem dX5_layOut_83 : decode cX5_layOut 83 = .ok (.getfield 27, 3) := by decide +kernel
theorem dX5_layOut_86 : decode cX5_layOut 86 = .ok (.iconst 4, 1) := by decide +kernel
theorem dX5_layOut_87 : decode cX5_layOut 87 = .ok (.iload_n 3, 1) := by decide +kernel
theorem dX5_layOut_88 : decode cX5_layOut 88 = .ok (.imul, 1) := by decide +kernel
theorem dX5_layOut_89 : decode cX5_layOut 89 = .ok (.iload 4, 2) := by decide +kernel
theorem dX5_layOut_91 : decode cX5_layOut 91 = .ok (.iadd, 1) := by decide +kernel
theorem dX5_layOut_92 : decode cX5_layOut 92 = .ok (.iaload, 1) := by decide +kernel
theorem dX5_layOut_93 : decode cX5_layOut 93 = .ok (.iastore, 1) := by decide +kernel
theorem dX5_layOut_94 : decode cX5_layOut 94 = .ok (.iinc 4 1, 3) := by decide +kernel
theorem dX5_layOut_97 : decode cX5_layOut 97 = .ok (.iinc 6 1, 3) := by decide +kernel
theorem dX5_layOut_100 : decode cX5_layOut 100 = .ok (.goto (-41), 3) := by decide +kernel
theorem dX5_layOut_103 : decode cX5_layOut 103 = .ok (.iinc 5 1, 3) := by decide +kernel
theorem dX5_layOut_106 : decode cX5_layOut 106 = .ok (.goto (-76), 3) := by decide +kernel
theorem dX5_layOut_109 : decode cX5_layOut 109 = .ok (.return_, 1) := by decide +kernel
theorem dX5_sum_0 : decode cX5_sum 0 = .ok (.iconst 0, 1) := by decide +kernel
theorem dX5_sum_1 : decode cX5_sum 1 = .ok (.istore 4, 2) := by decide +kernel
theorem dX5_sum_3 : decode cX5_sum 3 = .ok (.iload_n 2, 1) := by decide +kernel
theorem dX5_sum_4 : decode cX5_sum 4 = .ok (.istore 5, 2) := by decide +kernel
theorem dX5_sum_6 : decode cX5_sum 6 = .ok (.iload 5, 2) := by decide +kernel
theorem dX5_sum_8 : decode cX5_sum 8 = .ok (.iload_n 2, 1) := by decide +kernel
theorem dX5_sum_9 : decode cX5_sum 9 = .ok (.iload_n 3, 1) := by decide +kernel
theorem dX5_sum_10 : decode cX5_sum 10 = .ok (.iadd, 1) := by decide +kernel
theorem dX5_sum_11 : decode cX5_sum 11 = .ok (.if_icmp .ge 33, 3) := by decide +kernel
theorem dX5_sum_14 : decode cX5_sum 14 = .ok (.iload 4, 2) := by decide +kernel
theorem dX5_sum_16 : decode cX5_sum 16 = .ok (.aload_n 0, 1) := by decide +kernel
theorem dX5_sum_17 : decode cX5_sum 17 = .ok (.getfield 7, 3) := by decide +kernel
theorem dX5_sum_20 : decode cX5_sum 20 = .ok (.bipush 15, 2) := by decide +kernel
theorem dX5_sum_22 : decode cX5_sum 22 = .ok (.aload_n 0, 1) := by decide +kernel
theorem dX5_sum_23 : decode cX5_sum 23 = .ok (.getfield 45, 3) := by decide +kernel
theorem dX5_sum_26 : decode cX5_sum 26 = .ok (.iconst 4, 1) := by decide +kernel
theorem dX5_sum_27 : decode cX5_sum 27 = .ok (.iload_n 1, 1) := by decide +kernel
theorem dX5_sum_28 : decode cX5_sum 28 = .ok (.imul, 1) := by decide +kernel
theorem dX5_sum_29 : decode cX5_sum 29 = .ok (.iload 5, 2) := by decide +kernel
theorem dX5_sum_31 : decode cX5_sum 31 = .ok (.iadd, 1) := by decide +kernel
theorem dX5_sum_32 : decode cX5_sum 32 = .ok (.iaload, 1) := by decide +kernel
theorem dX5_sum_33 : decode cX5_sum 33 = .ok (.iadd, 1) := by decide +kernel
theorem dX5_sum_34 : decode cX5_sum 34 = .ok (.iaload, 1) := by decide +kernel
theorem dX5_sum_35 : decode cX5_sum 35 = .ok (.iadd, 1) := by decide +kernel
theorem dX5_sum_36 : decode cX5_sum 36 = .ok (.istore 4, 2) := by decide +kernel
theorem dX5_sum_38 : decode cX5_sum 38 = .ok (.iinc 5 1, 3) := by decide +kernel
theorem dX5_sum_41 : decode cX5_sum 41 = .ok (.goto (-35), 3) := by decide +kernel
theorem dX5_sum_44 : decode cX5_sum 44 = .ok (.iload 4, 2) := by decide +kernel
theorem dX5_sum_46 : decode cX5_sum 46 = .ok (.ireturn, 1) := by decide +kernel
theorem dX5_canBe_0 : decode cX5_canBe 0 = .ok (.iconst 1, 1) := by decide +kernel
theorem dX5_canBe_1 : decode cX5_canBe 1 = .ok (.istore_n 1, 1) := by decide +kernel
theorem dX5_canBe_2 : decode cX5_canBe 2 = .ok (.iconst 0, 1) := by decide +kernel
theorem dX5_canBe_3 : decode cX5_canBe 3 = .ok (.istore_n 2, 1) := by decide +kernel
theorem dX5_canBe_4 : decode cX5_canBe 4 = .ok (.iload_n 2, 1) := by decide +kernel
theorem dX5_canBe_5 : decode cX5_canBe 5 = .ok (.bipush 6, 2) := by decide +kernel
theorem dX5_canBe_7 : decode cX5_canBe 7 = .ok (.if_icmp .ge 64, 3) := by decide +kernel
theorem dX5_canBe_10 : decode cX5_canBe 10 = .ok (.iload_n 1, 1) := by decide +kernel
theorem dX5_canBe_11 : decode cX5_canBe 11 = .ok (.ifCond .eq 52, 3) := by decide +kernel
theorem dX5_canBe_14 : decode cX5_canBe 14 = .ok (.aload_n 0, 1) := by decide +kernel
theorem dX5_canBe_15 : decode cX5_canBe 15 = .ok (.getfield 48, 3) := by decide +kernel
theorem dX5_canBe_18 : decode cX5_canBe 18 = .ok (.iload_n 2, 1) := by decide +kernel
theorem dX5_canBe_19 : decode cX5_canBe 19 = .ok (.iaload, 1) := by decide +kernel
theorem dX5_canBe_20 : decode cX5_canBe 20 = .ok (.ifCond .eq 39, 3) := by decide +kernel
theorem dX5_canBe_23 : decode cX5_canBe 23 = .ok (.iload_n 2, 1) := by decide +kernel
theorem dX5_canBe_24 : decode cX5_canBe 24 = .ok (.aload_n 0, 1) := by decide +kernel
theorem dX5_canBe_25 : decode cX5_canBe 25 = .ok (.getfield 152, 3) := by decide +kernel
theorem dX5_canBe_28 : decode cX5_canBe 28 = .ok (.if_icmp .gt 35, 3) := by decide +kernel
theorem dX5_canBe_31 : decode cX5_canBe 31 = .ok (.aload_n 0, 1) := by decide +kernel
theorem dX5_canBe_32 : decode cX5_canBe 32 = .ok (.iload_n 2, 1) := by decide +kernel
theorem dX5_canBe_33 : decode cX5_canBe 33 = .ok (.iconst 0, 1) := by decide +kernel
theorem dX5_canBe_34 : decode cX5_canBe 34 = .ok (.aload_n 0, 1) := by decide +kernel
theorem dX5_canBe_35 : decode cX5_canBe 35 = .ok (.getfield 48, 3) := by decide +kernel
theorem dX5_canBe_38 : decode cX5_canBe 38 = .ok (.iload_n 2, 1) := by decide +kernel
theorem dX5_canBe_39 : decode cX5_canBe 39 = .ok (.iaload, 1) := by decide +kernel
theorem dX5_canBe_40 : decode cX5_canBe 40 = .ok (.invokevirtual 158, 3) := by decide +kernel
theorem dX5_canBe_43 : decode cX5_canBe 43 = .ok (.aload_n 0, 1) := by decide +kernel
theorem dX5_canBe_44 : decode cX5_canBe 44 = .ok (.getfield 7, 3) := by decide +kernel
theorem dX5_canBe_47 : decode cX5_canBe 47 = .ok (.iconst 0, 1) := by decide +kernel
theorem dX5_canBe_48 : decode cX5_canBe 48 = .ok (.aload_n 0, 1) := by decide +kernel
theorem dX5_canBe_49 : decode cX5_canBe 49 = .ok (.getfield 39, 3) := by decide +kernel
theorem dX5_canBe_52 : decode cX5_canBe 52 = .ok (.iload_n 2, 1) := by decide +kernel
theorem dX5_canBe_53 : decode cX5_canBe 53 = .ok (.iaload, 1) := by decide +kernel
theorem dX5_canBe_54 : decode cX5_canBe 54 = .ok (.iadd, 1) := by decide +kernel
theorem dX5_canBe_55 : decode cX5_canBe 55 = .ok (.iaload, 1) := by decide +kernel
theorem dX5_canBe_56 : decode cX5_canBe 56 = .ok (.if_icmp .gt 7, 3) := by decide +kernel
theorem dX5_canBe_59 : decode cX5_canBe 59 = .ok (.iconst 1, 1) := by decide +kernel
theorem dX5_canBe_60 : decode cX5_canBe 60 = .ok (.goto 4, 3) := by decide +kernel
theorem dX5_canBe_63 : decode cX5_canBe 63 = .ok (.iconst 0, 1) := by decide +kernel
theorem dX5_canBe_64 : decode cX5_canBe 64 = .ok (.istore_n 1, 1) := by decide +kernel
theorem dX5_canBe_65 : decode cX5_canBe 65 = .ok (.iinc 2 1, 3) := by decide +kernel
theorem dX5_canBe_68 : decode cX5_canBe 68 = .ok (.goto (-64), 3) := by decide +kernel
theorem dX5_canBe_71 : decode cX5_canBe 71 = .ok (.iload_n 1, 1) := by decide +kernel
theorem dX5_canBe_72 : decode cX5_canBe 72 = .ok (.ireturn, 1) := by decide +kernel
theorem dX5_insertHere_0 : decode cX5_insertHere 0 = .ok (.aload_n 0, 1) := by decide +kernel
theorem dX5_insertHere_1 : decode cX5_insertHere 1 = .ok (.getfield 48, 3) := by decide +kernel
theorem dX5_insertHere_4 : decode cX5_insertHere 4 = .ok (.iload_n 1, 1) := by decide +kernel
theorem dX5_insertHere_5 : decode cX5_insertHere 5 = .ok (.iaload, 1) := by decide +kernel
theorem dX5_insertHere_6 : decode cX5_insertHere 6 = .ok (.istore 4, 2) := by decide +kernel
theorem dX5_insertHere_8 : decode cX5_insertHere 8 = .ok (.iload 4, 2) := by decide +kernel
theorem dX5_insertHere_10 : decode cX5_insertHere 10 = .ok (.iload_n 2, 1) := by decide +kernel
theorem dX5_insertHere_11 : decode cX5_insertHere 11 = .ok (.if_icmp .le 33, 3) := by decide +kernel
theorem dX5_insertHere_14 : decode cX5_insertHere 14 = .ok (.aload_n 0, 1) := by decide +kernel
theorem dX5_insertHere_15 : decode cX5_insertHere 15 = .ok (.getfield 45, 3) := by decide +kernel
theorem dX5_insertHere_18 : decode cX5_insertHere 18 = .ok (.iconst 4, 1) := by decide +kernel
theorem dX5_insertHere_19 : decode cX5_insertHere 19 = .ok (.iload_n 1, 1) := by decide +kernel
theorem dX5_insertHere_20 : decode cX5_insertHere 20 = .ok (.imul, 1) := by decide +kernel
theorem dX5_insertHere_21 : decode cX5_insertHere 21 = .ok (.iload 4, 2) := by decide +kernel
theorem dX5_insertHere_23 : decode cX5_insertHere 23 = .ok (.iadd, 1) := by decide +kernel
theorem dX5_insertHere_24 : decode cX5_insertHere 24 = .ok (.aload_n 0, 1) := by decide +kernel
theorem dX5_insertHere_25 : decode cX5_insertHere 25 = .ok (.getfield 45, 3) := by decide +kernel
theorem dX5_insertHere_28 : decode cX5_insertHere 28 = .ok (.iconst 4, 1) := by decide +kernel
theorem dX5_insertHere_29 : decode cX5_insertHere 29 = .ok (.iload_n 1, 1) := by decide +kernel
theorem dX5_insertHere_30 : decode cX5_insertHere 30 = .ok (.imul, 1) := by decide +kernel
theorem dX5_insertHere_31 : decode cX5_insertHere 31 = .ok (.iload 4, 2) := by decide +kernel
theorem dX5_insertHere_33 : decode cX5_insertHere 33 = .ok (.iadd, 1) := by decide +kernel
theorem dX5_insertHere_34 : decode cX5_insertHere 34 = .ok (.iconst 1, 1) := by decide +kernel
theorem dX5_insertHere_35 : decode cX5_insertHere 35 = .ok (.isub, 1) := by decide +kernel
theorem dX5_insertHere_36 : decode cX5_insertHere 36 = .ok (.iaload, 1) := by decide +kernel
theorem dX5_insertHere_37 : decode cX5_insertHere 37 = .ok (.iastore, 1) := by decide +kernel
theorem dX5_insertHere_38 : decode cX5_insertHere 38 = .ok (.iinc 4 (-1), 3) := by decide +kernel
theorem dX5_insertHere_41 : decode cX5_insertHere 41 = .ok (.goto (-33), 3) := by decide +kernel
theorem dX5_insertHere_44 : decode cX5_insertHere 44 = .ok (.aload_n 0, 1) := by decide +kernel
theorem dX5_insertHere_45 : decode cX5_insertHere 45 = .ok (.getfield 45, 3) := by decide +kernel
theorem dX5_insertHere_48 : decode cX5_insertHere 48 = .ok (.iconst 4, 1) := by decide +kernel
theorem dX5_insertHere_49 : decode cX5_insertHere 49 = .ok (.iload_n 1, 1) := by decide +kernel
theorem dX5_insertHere_50 : decode cX5_insertHere 50 = .ok (.imul, 1) := by decide +kernel
theorem dX5_insertHere_51 : decode cX5_insertHere 51 = .ok (.iload_n 2, 1) := by decide +kernel
theorem dX5_insertHere_52 : decode cX5_insertHere 52 = .ok (.iadd, 1) := by decide +kernel
theorem dX5_insertHere_53 : decode cX5_insertHere 53 = .ok (.iload_n 3, 1) := by decide +kernel
theorem dX5_insertHere_54 : decode cX5_insertHere 54 = .ok (.iastore, 1) := by decide +kernel
theorem dX5_insertHere_55 : decode cX5_insertHere 55 = .ok (.aload_n 0, 1) := by decide +kernel
theorem dX5_insertHere_56 : decode cX5_insertHere 56 = .ok (.getfield 48, 3) := by decide +kernel
theorem dX5_insertHere_59 : decode cX5_insertHere 59 = .ok (.iload_n 1, 1) := by decide +kernel
theorem dX5_insertHere_60 : decode cX5_insertHere 60 = .ok (.dup2, 1) := by decide +kernel
theorem dX5_insertHere_61 : decode cX5_insertHere 61 = .ok (.iaload, 1) := by decide +kernel
theorem dX5_insertHere_62 : decode cX5_insertHere 62 = .ok (.iconst 1, 1) := by decide +kernel
theorem dX5_insertHere_63 : decode cX5_insertHere 63 = .ok (.iadd, 1) := by decide +kernel
theorem dX5_insertHere_64 : decode cX5_insertHere 64 = .ok (.iastore, 1) := by decide +kernel
theorem dX5_insertHere_65 : decode cX5_insertHere 65 = .ok (.return_, 1) := by decide +kernel
theorem dX5_takeHere_0 : decode cX5_takeHere 0 = .ok (.aload_n 0, 1) := by decide +kernel
theorem dX5_takeHere_1 : decode cX5_takeHere 1 = .ok (.getfield 45, 3) := by decide +kernel
theorem dX5_takeHere_4 : decode cX5_takeHere 4 = .ok (.iconst 4, 1) := by decide +kernel
theorem dX5_takeHere_5 : decode cX5_takeHere 5 = .ok (.iload_n 1, 1) := by decide +kernel
theorem dX5_takeHere_6 : decode cX5_takeHere 6 = .ok (.imul, 1) := by decide +kernel
theorem dX5_takeHere_7 : decode cX5_takeHere 7 = .ok (.iload_n 2, 1) := by decide +kernel
theorem dX5_takeHere_8 : decode cX5_takeHere 8 = .ok (.iadd, 1) := by decide +kernel
theorem dX5_takeHere_9 : decode cX5_takeHere 9 = .ok (.iaload, 1) := by decide +kernel
theorem dX5_takeHere_10 : decode cX5_takeHere 10 = .ok (.istore_n 3, 1) := by decide +kernel
theorem dX5_takeHere_11 : decode cX5_takeHere 11 = .ok (.aload_n 0, 1) := by decide +kernel
theorem dX5_takeHere_12 : decode cX5_takeHere 12 = .ok (.getfield 48, 3) := by decide +kernel
theorem dX5_takeHere_15 : decode cX5_takeHere 15 = .ok (.iload_n 1, 1) := by decide +kernel
theorem dX5_takeHere_16 : decode cX5_takeHere 16 = .ok (.dup2, 1) := by decide +kernel
theorem dX5_takeHere_17 : decode cX5_takeHere 17 = .ok (.iaload, 1) := by decide +kernel
theorem dX5_takeHere_18 : decode cX5_takeHere 18 = .ok (.iconst 1, 1) := by decide +kernel
theorem dX5_takeHere_19 : decode cX5_takeHere 19 = .ok (.isub, 1) := by decide +kernel
theorem dX5_takeHere_20 : decode cX5_takeHere 20 = .ok (.iastore, 1) := by decide +kernel
theorem dX5_takeHere_21 : decode cX5_takeHere 21 = .ok (.iload_n 2, 1) := by decide +kernel
theorem dX5_takeHere_22 : decode cX5_takeHere 22 = .ok (.istore 4, 2) := by decide +kernel
theorem dX5_takeHere_24 : decode cX5_takeHere 24 = .ok (.iload 4, 2) := by decide +kernel
theorem dX5_takeHere_26 : decode cX5_takeHere 26 = .ok (.aload_n 0, 1) := by decide +kernel
theorem dX5_takeHere_27 : decode cX5_takeHere 27 = .ok (.getfield 48, 3) := by decide +kernel
theorem dX5_takeHere_30 : decode cX5_takeHere 30 = .ok (.iload_n 1, 1) := by decide +kernel
theorem dX5_takeHere_31 : decode cX5_takeHere 31 = .ok (.iaload, 1) := by decide +kernel
theorem dX5_takeHere_32 : decode cX5_takeHere 32 = .ok (.if_icmp .ge 33, 3) := by decide +kernel
theorem dX5_takeHere_35 : decode cX5_takeHere 35 = .ok (.aload_n 0, 1) := by decide +kernel
theorem dX5_takeHere_36 : decode cX5_takeHere 36 = .ok (.getfield 45, 3) := by decide +kernel
theorem dX5_takeHere_39 : decode cX5_takeHere 39 = .ok (.iconst 4, 1) := by decide +kernel
theorem dX5_takeHere_40 : decode cX5_takeHere 40 = .ok (.iload_n 1, 1) := by decide +kernel
theorem dX5_takeHere_41 : decode cX5_takeHere 41 = .ok (.imul, 1) := by decide +kernel
theorem dX5_takeHere_42 : decode cX5_takeHere 42 = .ok (.iload 4, 2) := by decide +kernel
theorem dX5_takeHere_44 : decode cX5_takeHere 44 = .ok (.iadd, 1) := by decide +kernel
theorem dX5_takeHere_45 : decode cX5_takeHere 45 = .ok (.aload_n 0, 1) := by decide +kernel
theorem dX5_takeHere_46 : decode cX5_takeHere 46 = .ok (.getfield 45, 3) := by decide +kernel
theorem dX5_takeHere_49 : decode cX5_takeHere 49 = .ok (.iconst 4, 1) := by decide +kernel
theorem dX5_takeHere_50 : decode cX5_takeHere 50 = .ok (.iload_n 1, 1) := by decide +kernel
theorem dX5_takeHere_51 : decode cX5_takeHere 51 = .ok (.imul, 1) := by decide +kernel
theorem dX5_takeHere_52 : decode cX5_takeHere 52 = .ok (.iload 4, 2) := by decide +kernel
theorem dX5_takeHere_54 : decode cX5_takeHere 54 = .ok (.iadd, 1) := by decide +kernel
theorem dX5_takeHere_55 : decode cX5_takeHere 55 = .ok (.iconst 1, 1) := by decide +kernel
theorem dX5_takeHere_56 : decode cX5_takeHere 56 = .ok (.iadd, 1) := by decide +kernel
theorem dX5_takeHere_57 : decode cX5_takeHere 57 = .ok (.iaload, 1) := by decide +kernel
theorem dX5_takeHere_58 : decode cX5_takeHere 58 = .ok (.iastore, 1) := by decide +kernel
theorem dX5_takeHere_59 : decode cX5_takeHere 59 = .ok (.iinc 4 1, 3) := by decide +kernel
theorem dX5_takeHere_62 : decode cX5_takeHere 62 = .ok (.goto (-38), 3) := by decide +kernel
theorem dX5_takeHere_65 : decode cX5_takeHere 65 = .ok (.iload_n 3, 1) := by decide +kernel
theorem dX5_takeHere_66 : decode cX5_takeHere 66 = .ok (.ireturn, 1) := by decide +kernel
theorem dX5_behind_0 : decode cX5_behind 0 = .ok (.iload_n 1, 1) := by decide +kernel
theorem dX5_behind_1 : decode cX5_behind 1 = .ok (.bipush 12, 2) := by decide +kernel
theorem dX5_behind_3 : decode cX5_behind 3 = .ok (.irem, 1) := by decide +kernel
theorem dX5_behind_4 : decode cX5_behind 4 = .ok (.istore_n 3, 1) := by decide +kernel
theorem dX5_behind_5 : decode cX5_behind 5 = .ok (.iload_n 2, 1) := by decide +kernel
theorem dX5_behind_6 : decode cX5_behind 6 = .ok (.iconst 2, 1) := by decide +kernel
theorem dX5_behind_7 : decode cX5_behind 7 = .ok (.if_icmp .ge 23, 3) := by decide +kernel
theorem dX5_behind_10 : decode cX5_behind 10 = .ok (.iload_n 1, 1) := by decide +kernel
theorem dX5_behind_11 : decode cX5_behind 11 = .ok (.iload_n 3, 1) := by decide +kernel
theorem dX5_behind_12 : decode cX5_behind 12 = .ok (.isub, 1) := by decide +kernel
theorem dX5_behind_13 : decode cX5_behind 13 = .ok (.iload_n 3, 1) := by decide +kernel
theorem dX5_behind_14 : decode cX5_behind 14 = .ok (.iload_n 2, 1) := by decide +kernel
theorem dX5_behind_15 : decode cX5_behind 15 = .ok (.ifCond .ne 7, 3) := by decide +kernel
theorem dX5_behind_18 : decode cX5_behind 18 = .ok (.iconst 1, 1) := by decide +kernel
theorem dX5_behind_19 : decode cX5_behind 19 = .ok (.goto 5, 3) := by decide +kernel
theorem dX5_behind_22 : decode cX5_behind 22 = .ok (.bipush 11, 2) := by decide +kernel
theorem dX5_behind_24 : decode cX5_behind 24 = .ok (.iadd, 1) := by decide +kernel
theorem dX5_behind_25 : decode cX5_behind 25 = .ok (.bipush 12, 2) := by decide +kernel
theorem dX5_behind_27 : decode cX5_behind 27 = .ok (.irem, 1) := by decide +kernel
theorem dX5_behind_28 : decode cX5_behind 28 = .ok (.iadd, 1) := by decide +kernel
theorem dX5_behind_29 : decode cX5_behind 29 = .ok (.ireturn, 1) := by decide +kernel
theorem dX5_behind_30 : decode cX5_behind 30 = .ok (.iload_n 2, 1) := by decide +kernel
theorem dX5_behind_31 : decode cX5_behind 31 = .ok (.bipush 30, 2) := by decide +kernel
theorem dX5_behind_33 : decode cX5_behind 33 = .ok (.if_icmp .ge 7, 3) := by decide +kernel
theorem dX5_behind_36 : decode cX5_behind 36 = .ok (.iconst 1, 1) := by decide +kernel
theorem dX5_behind_37 : decode cX5_behind 37 = .ok (.goto 4, 3) := by decide +kernel
theorem dX5_behind_40 : decode cX5_behind 40 = .ok (.iconst 0, 1) := by decide +kernel
theorem dX5_behind_41 : decode cX5_behind 41 = .ok (.istore 4, 2) := by decide +kernel
theorem dX5_behind_43 : decode cX5_behind 43 = .ok (.iload 4, 2) := by decide +kernel
theorem dX5_behind_45 : decode cX5_behind 45 = .ok (.ifCond .eq 12, 3) := by decide +kernel
theorem dX5_behind_48 : decode cX5_behind 48 = .ok (.iload_n 2, 1) := by decide +kernel
theorem dX5_behind_49 : decode cX5_behind 49 = .ok (.bipush 10, 2) := by decide +kernel
theorem dX5_behind_51 : decode cX5_behind 51 = .ok (.idiv, 1) := by decide +kernel
theorem dX5_behind_52 : decode cX5_behind 52 = .ok (.iconst 1, 1) := by decide +kernel
theorem dX5_behind_53 : decode cX5_behind 53 = .ok (.isub, 1) := by decide +kernel
theorem dX5_behind_54 : decode cX5_behind 54 = .ok (.goto 9, 3) := by decide +kernel
theorem dX5_behind_57 : decode cX5_behind 57 = .ok (.iload_n 2, 1) := by decide +kernel
theorem dX5_behind_58 : decode cX5_behind 58 = .ok (.bipush 10, 2) := by decide +kernel
theorem dX5_behind_60 : decode cX5_behind 60 = .ok (.idiv, 1) := by decide +kernel
theorem dX5_behind_61 : decode cX5_behind 61 = .ok (.iconst 3, 1) := by decide +kernel
theorem dX5_behind_62 : decode cX5_behind 62 = .ok (.isub, 1) := by decide +kernel
theorem dX5_behind_63 : decode cX5_behind 63 = .ok (.istore 5, 2) := by decide +kernel
theorem dX5_behind_65 : decode cX5_behind 65 = .ok (.iload_n 2, 1) := by decide +kernel
theorem dX5_behind_66 : decode cX5_behind 66 = .ok (.bipush 10, 2) := by decide +kernel
theorem dX5_behind_68 : decode cX5_behind 68 = .ok (.irem, 1) := by decide +kernel
theorem dX5_behind_69 : decode cX5_behind 69 = .ok (.istore 6, 2) := by decide +kernel
theorem dX5_behind_71 : decode cX5_behind 71 = .ok (.aload_n 0, 1) := by decide +kernel
theorem dX5_behind_72 : decode cX5_behind 72 = .ok (.getfield 42, 3) := by decide +kernel
theorem dX5_behind_75 : decode cX5_behind 75 = .ok (.iload_n 3, 1) := by decide +kernel
theorem dX5_behind_76 : decode cX5_behind 76 = .ok (.bipush 6, 2) := by decide +kernel
theorem dX5_behind_78 : decode cX5_behind 78 = .ok (.iload 5, 2) := by decide +kernel
theorem dX5_behind_80 : decode cX5_behind 80 = .ok (.imul, 1) := by decide +kernel
theorem dX5_behind_81 : decode cX5_behind 81 = .ok (.iadd, 1) := by decide +kernel
theorem dX5_behind_82 : decode cX5_behind 82 = .ok (.bipush 12, 2) := by decide +kernel
theorem dX5_behind_84 : decode cX5_behind 84 = .ok (.irem, 1) := by decide +kernel
theorem dX5_behind_85 : decode cX5_behind 85 = .ok (.iaload, 1) := by decide +kernel
theorem dX5_behind_86 : decode cX5_behind 86 = .ok (.istore 7, 2) := by decide +kernel
theorem dX5_behind_88 : decode cX5_behind 88 = .ok (.iload 7, 2) := by decide +kernel
theorem dX5_behind_90 : decode cX5_behind 90 = .ok (.ifCond .ne 6, 3) := by decide +kernel
theorem dX5_behind_93 : decode cX5_behind 93 = .ok (.bipush (-11), 2) := by decide +kernel
theorem dX5_behind_95 : decode cX5_behind 95 = .ok (.ireturn, 1) := by decide +kernel
theorem dX5_behind_96 : decode cX5_behind 96 = .ok (.aload_n 0, 1) := by decide +kernel
theorem dX5_behind_97 : decode cX5_behind 97 = .ok (.iload_n 1, 1) := by decide +kernel
theorem dX5_behind_98 : decode cX5_behind 98 = .ok (.invokevirtual 162, 3) := by decide +kernel
theorem dX5_behind_101 : decode cX5_behind 101 = .ok (.iload 4, 2) := by decide +kernel
theorem dX5_behind_103 : decode cX5_behind 103 = .ok (.ifCond .eq 8, 3) := by decide +kernel
theorem dX5_behind_106 : decode cX5_behind 106 = .ok (.iload 7, 2) := by decide +kernel
theorem dX5_behind_108 : decode cX5_behind 108 = .ok (.goto 4, 3) := by decide +kernel
theorem dX5_behind_111 : decode cX5_behind 111 = .ok (.iconst 0, 1) := by decide +kernel
theorem dX5_behind_112 : decode cX5_behind 112 = .ok (.istore 8, 2) := by decide +kernel
theorem dX5_behind_114 : decode cX5_behind 114 = .ok (.iload 4, 2) := by decide +kernel
theorem dX5_behind_116 : decode cX5_behind 116 = .ok (.ifCond .eq 7, 3) := by decide +kernel
theorem dX5_behind_119 : decode cX5_behind 119 = .ok (.iconst 0, 1) := by decide +kernel
theorem dX5_behind_120 : decode cX5_behind 120 = .ok (.goto 5, 3) := by decide +kernel
theorem dX5_behind_123 : decode cX5_behind 123 = .ok (.iload 7, 2) := by decide +kernel
theorem dX5_behind_125 : decode cX5_behind 125 = .ok (.istore 9, 2) := by decide +kernel
theorem dX5_behind_127 : decode cX5_behind 127 = .ok (.aload_n 0, 1) := by decide +kernel
theorem dX5_behind_128 : decode cX5_behind 128 = .ok (.getfield 48, 3) := by decide +kernel
theorem dX5_behind_131 : decode cX5_behind 131 = .ok (.iload 8, 2) := by decide +kernel
theorem dX5_behind_133 : decode cX5_behind 133 = .ok (.iaload, 1) := by decide +kernel
theorem dX5_behind_134 : decode cX5_behind 134 = .ok (.iload 6, 2) := by decide +kernel
theorem dX5_behind_136 : decode cX5_behind 136 = .ok (.if_icmp .ge 6, 3) := by decide +kernel
theorem dX5_behind_139 : decode cX5_behind 139 = .ok (.bipush (-11), 2) := by decide +kernel
theorem dX5_behind_141 : decode cX5_behind 141 = .ok (.ireturn, 1) := by decide +kernel
theorem dX5_behind_142 : decode cX5_behind 142 = .ok (.iload 4, 2) := by decide +kernel
theorem dX5_behind_144 : decode cX5_behind 144 = .ok (.ifCond .ne 8, 3) := by decide +kernel
theorem dX5_behind_147 : decode cX5_behind 147 = .ok (.iload 5, 2) := by decide +kernel
theorem dX5_behind_149 : decode cX5_behind 149 = .ok (.ifCond .ne 7, 3) := by decide +kernel
theorem dX5_behind_152 : decode cX5_behind 152 = .ok (.iconst 0, 1) := by decide +kernel
theorem dX5_behind_153 : decode cX5_behind 153 = .ok (.goto 12, 3) := by decide +kernel
theorem dX5_behind_156 : decode cX5_behind 156 = .ok (.aload_n 0, 1) := by decide +kernel
theorem dX5_behind_157 : decode cX5_behind 157 = .ok (.getfield 48, 3) := by decide +kernel
theorem dX5_behind_160 : decode cX5_behind 160 = .ok (.iconst 0, 1) := by decide +kernel
theorem dX5_behind_161 : decode cX5_behind 161 = .ok (.iaload, 1) := by decide +kernel
theorem dX5_behind_162 : decode cX5_behind 162 = .ok (.iload 6, 2) := by decide +kernel
theorem dX5_behind_164 : decode cX5_behind 164 = .ok (.isub, 1) := by decide +kernel
theorem dX5_behind_165 : decode cX5_behind 165 = .ok (.istore 10, 2) := by decide +kernel
theorem dX5_behind_167 : decode cX5_behind 167 = .ok (.iconst 0, 1) := by decide +kernel
theorem dX5_behind_168 : decode cX5_behind 168 = .ok (.istore 11, 2) := by decide +kernel
theorem dX5_behind_170 : decode cX5_behind 170 = .ok (.iload 10, 2) := by decide +kernel
theorem dX5_behind_172 : decode cX5_behind 172 = .ok (.istore 12, 2) := by decide +kernel
theorem dX5_behind_174 : decode cX5_behind 174 = .ok (.iload 12, 2) := by decide +kernel
theorem dX5_behind_176 : decode cX5_behind 176 = .ok (.iload 10, 2) := by decide +kernel
theorem dX5_behind_178 : decode cX5_behind 178 = .ok (.iload 6, 2) := by decide +kernel
theorem dX5_behind_180 : decode cX5_behind 180 = .ok (.iadd, 1) := by decide +kernel
theorem dX5_behind_181 : decode cX5_behind 181 = .ok (.if_icmp .ge 44, 3) := by decide +kernel
theorem dX5_behind_184 : decode cX5_behind 184 = .ok (.iload 11, 2) := by decide +kernel
theorem dX5_behind_186 : decode cX5_behind 186 = .ok (.ifCond .ne 26, 3) := by decide +kernel
theorem dX5_behind_189 : decode cX5_behind 189 = .ok (.aload_n 0, 1) := by decide +kernel
theorem dX5_behind_190 : decode cX5_behind 190 = .ok (.getfield 7, 3) := by decide +kernel
theorem dX5_behind_193 : decode cX5_behind 193 = .ok (.bipush 23, 2) := by decide +kernel
theorem dX5_behind_195 : decode cX5_behind 195 = .ok (.aload_n 0, 1) := by decide +kernel
theorem dX5_behind_196 : decode cX5_behind 196 = .ok (.getfield 45, 3) := by decide +kernel
theorem dX5_behind_199 : decode cX5_behind 199 = .ok (.iconst 4, 1) := by decide +kernel
theorem dX5_behind_200 : decode cX5_behind 200 = .ok (.iload 8, 2) := by decide +kernel
theorem dX5_behind_202 : decode cX5_behind 202 = .ok (.imul, 1) := by decide +kernel
theorem dX5_behind_203 : decode cX5_behind 203 = .ok (.iload 12, 2) := by decide +kernel
theorem dX5_behind_205 : decode cX5_behind 205 = .ok (.iadd, 1) := by decide +kernel
theorem dX5_behind_206 : decode cX5_behind 206 = .ok (.iaload, 1) := by decide +kernel
theorem dX5_behind_207 : decode cX5_behind 207 = .ok (.iadd, 1) := by decide +kernel
theorem dX5_behind_208 : decode cX5_behind 208 = .ok (.iaload, 1) := by decide +kernel
theorem dX5_behind_209 : decode cX5_behind 209 = .ok (.ifCond .ne 7, 3) := by decide +kernel
theorem dX5_behind_212 : decode cX5_behind 212 = .ok (.iconst 1, 1) := by decide +kernel
theorem dX5_behind_213 : decode cX5_behind 213 = .ok (.goto 4, 3) := by decide +kernel
theorem dX5_behind_216 : decode cX5_behind 216 = .ok (.iconst 0, 1) := by decide +kernel
theorem dX5_behind_217 : decode cX5_behind 217 = .ok (.istore 11, 2) := by decide +kernel
theorem dX5_behind_219 : decode cX5_behind 219 = .ok (.iinc 12 1, 3) := by decide +kernel
theorem dX5_behind_222 : decode cX5_behind 222 = .ok (.goto (-48), 3) := by decide +kernel
theorem dX5_behind_225 : decode cX5_behind 225 = .ok (.iload 11, 2) := by decide +kernel
theorem dX5_behind_227 : decode cX5_behind 227 = .ok (.ifCond .eq 45, 3) := by decide +kernel
theorem dX5_behind_230 : decode cX5_behind 230 = .ok (.aload_n 0, 1) := by decide +kernel
theorem dX5_behind_231 : decode cX5_behind 231 = .ok (.iload 8, 2) := by decide +kernel
theorem dX5_behind_233 : decode cX5_behind 233 = .ok (.iload 10, 2) := by decide +kernel
theorem dX5_behind_235 : decode cX5_behind 235 = .ok (.iload 6, 2) := by decide +kernel
theorem dX5_behind_237 : decode cX5_behind 237 = .ok (.invokevirtual 158, 3) := by decide +kernel
theorem dX5_behind_240 : decode cX5_behind 240 = .ok (.aload_n 0, 1) := by decide +kernel
theorem dX5_behind_241 : decode cX5_behind 241 = .ok (.iload 9, 2) := by decide +kernel
theorem dX5_behind_243 : decode cX5_behind 243 = .ok (.iconst 0, 1) := by decide +kernel
theorem dX5_behind_244 : decode cX5_behind 244 = .ok (.aload_n 0, 1) := by decide +kernel
theorem dX5_behind_245 : decode cX5_behind 245 = .ok (.getfield 48, 3) := by decide +kernel
theorem dX5_behind_248 : decode cX5_behind 248 = .ok (.iload 9, 2) := by decide +kernel
theorem dX5_behind_250 : decode cX5_behind 250 = .ok (.iaload, 1) := by decide +kernel
theorem dX5_behind_251 : decode cX5_behind 251 = .ok (.invokevirtual 158, 3) := by decide +kernel
theorem dX5_behind_254 : decode cX5_behind 254 = .ok (.iadd, 1) := by decide +kernel
theorem dX5_behind_255 : decode cX5_behind 255 = .ok (.aload_n 0, 1) := by decide +kernel
theorem dX5_behind_256 : decode cX5_behind 256 = .ok (.getfield 7, 3) := by decide +kernel
theorem dX5_behind_259 : decode cX5_behind 259 = .ok (.iconst 0, 1) := by decide +kernel
theorem dX5_behind_260 : decode cX5_behind 260 = .ok (.aload_n 0, 1) := by decide +kernel
theorem dX5_behind_261 : decode cX5_behind 261 = .ok (.getfield 39, 3) := by decide +kernel
theorem dX5_behind_264 : decode cX5_behind 264 = .ok (.iload 9, 2) := by decide +kernel
theorem dX5_behind_266 : decode cX5_behind 266 = .ok (.iaload, 1) := by decide +kernel
theorem dX5_behind_267 : decode cX5_behind 267 = .ok (.iadd, 1) := by decide +kernel
theorem dX5_behind_268 : decode cX5_behind 268 = .ok (.iaload, 1) := by decide +kernel
theorem dX5_behind_269 : decode cX5_behind 269 = .ok (.if_icmp .le 6, 3) := by decide +kernel
theorem dX5_behind_272 : decode cX5_behind 272 = .ok (.bipush (-11), 2) := by decide +kernel
theorem dX5_behind_274 : decode cX5_behind 274 = .ok (.ireturn, 1) := by decide +kernel
theorem dX5_behind_275 : decode cX5_behind 275 = .ok (.iconst 0, 1) := by decide +kernel
theorem dX5_behind_276 : decode cX5_behind 276 = .ok (.istore 12, 2) := by decide +kernel
theorem dX5_behind_278 : decode cX5_behind 278 = .ok (.iload 12, 2) := by decide +kernel
theorem dX5_behind_280 : decode cX5_behind 280 = .ok (.iload 6, 2) := by decide +kernel
theorem dX5_behind_282 : decode cX5_behind 282 = .ok (.if_icmp .ge 92, 3) := by decide +kernel
theorem dX5_behind_285 : decode cX5_behind 285 = .ok (.iload 4, 2) := by decide +kernel
theorem dX5_behind_287 : decode cX5_behind 287 = .ok (.ifCond .eq 37, 3) := by decide +kernel
theorem dX5_behind_290 : decode cX5_behind 290 = .ok (.aload_n 0, 1) := by decide +kernel
theorem dX5_behind_291 : decode cX5_behind 291 = .ok (.iload 8, 2) := by decide +kernel
theorem dX5_behind_293 : decode cX5_behind 293 = .ok (.iconst 0, 1) := by decide +kernel
theorem dX5_behind_294 : decode cX5_behind 294 = .ok (.invokevirtual 165, 3) := by decide +kernel
theorem dX5_behind_297 : decode cX5_behind 297 = .ok (.istore 13, 2) := by decide +kernel
theorem dX5_behind_299 : decode cX5_behind 299 = .ok (.aload_n 0, 1) := by decide +kernel
theorem dX5_behind_300 : decode cX5_behind 300 = .ok (.iconst 0, 1) := by decide +kernel
theorem dX5_behind_301 : decode cX5_behind 301 = .ok (.iload 5, 2) := by decide +kernel
theorem dX5_behind_303 : decode cX5_behind 303 = .ok (.ifCond .ne 7, 3) := by decide +kernel
theorem dX5_behind_306 : decode cX5_behind 306 = .ok (.iconst 0, 1) := by decide +kernel
theorem dX5_behind_307 : decode cX5_behind 307 = .ok (.goto 9, 3) := by decide +kernel
theorem dX5_behind_310 : decode cX5_behind 310 = .ok (.aload_n 0, 1) := by decide +kernel
theorem dX5_behind_311 : decode cX5_behind 311 = .ok (.getfield 48, 3) := by decide +kernel
theorem dX5_behind_314 : decode cX5_behind 314 = .ok (.iconst 0, 1) := by decide +kernel
theorem dX5_behind_315 : decode cX5_behind 315 = .ok (.iaload, 1) := by decide +kernel
theorem dX5_behind_316 : decode cX5_behind 316 = .ok (.iload 13, 2) := by decide +kernel
theorem dX5_behind_318 : decode cX5_behind 318 = .ok (.invokevirtual 168, 3) := by decide +kernel
theorem dX5_behind_321 : decode cX5_behind 321 = .ok (.goto 47, 3) := by decide +kernel
theorem dX5_behind_324 : decode cX5_behind 324 = .ok (.aload_n 0, 1) := by decide +kernel
theorem dX5_behind_325 : decode cX5_behind 325 = .ok (.iconst 0, 1) := by decide +kernel
theorem dX5_behind_326 : decode cX5_behind 326 = .ok (.iload 5, 2) := by decide +kernel
theorem dX5_behind_328 : decode cX5_behind 328 = .ok (.ifCond .ne 13, 3) := by decide +kernel
theorem dX5_behind_331 : decode cX5_behind 331 = .ok (.iload 6, 2) := by decide +kernel
theorem dX5_behind_333 : decode cX5_behind 333 = .ok (.iconst 1, 1) := by decide +kernel
theorem dX5_behind_334 : decode cX5_behind 334 = .ok (.isub, 1) := by decide +kernel
theorem dX5_behind_335 : decode cX5_behind 335 = .ok (.iload 12, 2) := by decide +kernel
theorem dX5_behind_337 : decode cX5_behind 337 = .ok (.isub, 1) := by decide +kernel
theorem dX5_behind_338 : decode cX5_behind 338 = .ok (.goto 15, 3) := by decide +kernel
theorem dX5_behind_341 : decode cX5_behind 341 = .ok (.aload_n 0, 1) := by decide +kernel
theorem dX5_behind_342 : decode cX5_behind 342 = .ok (.getfield 48, 3) := by decide +kernel
theorem dX5_behind_345 : decode cX5_behind 345 = .ok (.iconst 0, 1) := by decide +kernel
theorem dX5_behind_346 : decode cX5_behind 346 = .ok (.iaload, 1) := by decide +kernel
theorem dX5_behind_347 : decode cX5_behind 347 = .ok (.iload 6, 2) := by decide +kernel
theorem dX5_behind_349 : decode cX5_behind 349 = .ok (.isub, 1) := by decide +kernel
theorem dX5_behind_350 : decode cX5_behind 350 = .ok (.iload 12, 2) := by decide +kernel
theorem dX5_behind_352 : decode cX5_behind 352 = .ok (.iadd, 1) := by decide +kernel
theorem dX5_behind_353 : decode cX5_behind 353 = .ok (.invokevirtual 165, 3) := by decide +kernel
theorem dX5_behind_356 : decode cX5_behind 356 = .ok (.istore 13, 2) := by decide +kernel
theorem dX5_behind_358 : decode cX5_behind 358 = .ok (.aload_n 0, 1) := by decide +kernel
theorem dX5_behind_359 : decode cX5_behind 359 = .ok (.iload 9, 2) := by decide +kernel
theorem dX5_behind_361 : decode cX5_behind 361 = .ok (.iload 12, 2) := by decide +kernel
theorem dX5_behind_363 : decode cX5_behind 363 = .ok (.iload 13, 2) := by decide +kernel
theorem dX5_behind_365 : decode cX5_behind 365 = .ok (.invokevirtual 168, 3) := by decide +kernel
theorem dX5_behind_368 : decode cX5_behind 368 = .ok (.iinc 12 1, 3) := by decide +kernel
theorem dX5_behind_371 : decode cX5_behind 371 = .ok (.goto (-93), 3) := by decide +kernel
theorem dX5_behind_374 : decode cX5_behind 374 = .ok (.aload_n 0, 1) := by decide +kernel
theorem dX5_behind_375 : decode cX5_behind 375 = .ok (.invokevirtual 171, 3) := by decide +kernel
theorem dX5_behind_378 : decode cX5_behind 378 = .ok (.ireturn, 1) := by decide +kernel
theorem dX5_addTurned_0 : decode cX5_addTurned 0 = .ok (.aload_n 0, 1) := by decide +kernel
theorem dX5_addTurned_1 : decode cX5_addTurned 1 = .ok (.getfield 57, 3) := by decide +kernel
theorem dX5_addTurned_4 : decode cX5_addTurned 4 = .ok (.iload_n 1, 1) := by decide +kernel
theorem dX5_addTurned_5 : decode cX5_addTurned 5 = .ok (.baload, 1) := by decide +kernel
theorem dX5_addTurned_6 : decode cX5_addTurned 6 = .ok (.ifCond .ne 50, 3) := by decide +kernel
theorem dX5_addTurned_9 : decode cX5_addTurned 9 = .ok (.aload_n 0, 1) := by decide +kernel
theorem dX5_addTurned_10 : decode cX5_addTurned 10 = .ok (.getfield 75, 3) := by decide +kernel
theorem dX5_addTurned_13 : decode cX5_addTurned 13 = .ok (.iload_n 1, 1) := by decide +kernel
theorem dX5_addTurned_14 : decode cX5_addTurned 14 = .ok (.iaload, 1) := by decide +kernel
theorem dX5_addTurned_15 : decode cX5_addTurned 15 = .ok (.iload_n 3, 1) := by decide +kernel
theorem dX5_addTurned_16 : decode cX5_addTurned 16 = .ok (.if_icmp .eq 40, 3) := by decide +kernel
theorem dX5_addTurned_19 : decode cX5_addTurned 19 = .ok (.aload_n 0, 1) := by decide +kernel
theorem dX5_addTurned_20 : decode cX5_addTurned 20 = .ok (.getfield 75, 3) := by decide +kernel
theorem dX5_addTurned_23 : decode cX5_addTurned 23 = .ok (.iload_n 1, 1) := by decide +kernel
theorem dX5_addTurned_24 : decode cX5_addTurned 24 = .ok (.iload_n 3, 1) := by decide +kernel
theorem dX5_addTurned_25 : decode cX5_addTurned 25 = .ok (.iastore, 1) := by decide +kernel
theorem dX5_addTurned_26 : decode cX5_addTurned 26 = .ok (.aload_n 0, 1) := by decide +kernel
theorem dX5_addTurned_27 : decode cX5_addTurned 27 = .ok (.getfield 69, 3) := by decide +kernel
theorem dX5_addTurned_30 : decode cX5_addTurned 30 = .ok (.aload_n 0, 1) := by decide +kernel
theorem dX5_addTurned_31 : decode cX5_addTurned 31 = .ok (.getfield 175, 3) := by decide +kernel
theorem dX5_addTurned_34 : decode cX5_addTurned 34 = .ok (.iload_n 2, 1) := by decide +kernel
theorem dX5_addTurned_35 : decode cX5_addTurned 35 = .ok (.iastore, 1) := by decide +kernel
theorem dX5_addTurned_36 : decode cX5_addTurned 36 = .ok (.aload_n 0, 1) := by decide +kernel
theorem dX5_addTurned_37 : decode cX5_addTurned 37 = .ok (.getfield 60, 3) := by decide +kernel
theorem dX5_addTurned_40 : decode cX5_addTurned 40 = .ok (.aload_n 0, 1) := by decide +kernel
theorem dX5_addTurned_41 : decode cX5_addTurned 41 = .ok (.getfield 175, 3) := by decide +kernel
theorem dX5_addTurned_44 : decode cX5_addTurned 44 = .ok (.iload_n 1, 1) := by decide +kernel
theorem dX5_addTurned_45 : decode cX5_addTurned 45 = .ok (.iastore, 1) := by decide +kernel
theorem dX5_addTurned_46 : decode cX5_addTurned 46 = .ok (.aload_n 0, 1) := by decide +kernel
theorem dX5_addTurned_47 : decode cX5_addTurned 47 = .ok (.dup, 1) := by decide +kernel
theorem dX5_addTurned_48 : decode cX5_addTurned 48 = .ok (.getfield 175, 3) := by decide +kernel
theorem dX5_addTurned_51 : decode cX5_addTurned 51 = .ok (.iconst 1, 1) := by decide +kernel
theorem dX5_addTurned_52 : decode cX5_addTurned 52 = .ok (.iadd, 1) := by decide +kernel
theorem dX5_addTurned_53 : decode cX5_addTurned 53 = .ok (.putfield 175, 3) := by decide +kernel
theorem dX5_addTurned_56 : decode cX5_addTurned 56 = .ok (.return_, 1) := by decide +kernel
theorem dX5_addMoved_0 : decode cX5_addMoved 0 = .ok (.iload_n 1, 1) := by decide +kernel
theorem dX5_addMoved_1 : decode cX5_addMoved 1 = .ok (.ifCond .lt 59, 3) := by decide +kernel
theorem dX5_addMoved_4 : decode cX5_addMoved 4 = .ok (.aload_n 0, 1) := by decide +kernel
theorem dX5_addMoved_5 : decode cX5_addMoved 5 = .ok (.getfield 57, 3) := by decide +kernel
theorem dX5_addMoved_8 : decode cX5_addMoved 8 = .ok (.iload_n 1, 1) := by decide +kernel
theorem dX5_addMoved_9 : decode cX5_addMoved 9 = .ok (.baload, 1) := by decide +kernel
theorem dX5_addMoved_10 : decode cX5_addMoved 10 = .ok (.ifCond .ne 50, 3) := by decide +kernel
theorem dX5_addMoved_13 : decode cX5_addMoved 13 = .ok (.aload_n 0, 1) := by decide +kernel
theorem dX5_addMoved_14 : decode cX5_addMoved 14 = .ok (.getfield 78, 3) := by decide +kernel
theorem dX5_addMoved_17 : decode cX5_addMoved 17 = .ok (.iload_n 1, 1) := by decide +kernel
theorem dX5_addMoved_18 : decode cX5_addMoved 18 = .ok (.iaload, 1) := by decide +kernel
theorem dX5_addMoved_19 : decode cX5_addMoved 19 = .ok (.iload_n 3, 1) := by decide +kernel
theorem dX5_addMoved_20 : decode cX5_addMoved 20 = .ok (.if_icmp .eq 40, 3) := by decide +kernel
theorem dX5_addMoved_23 : decode cX5_addMoved 23 = .ok (.aload_n 0, 1) := by decide +kernel
theorem dX5_addMoved_24 : decode cX5_addMoved 24 = .ok (.getfield 78, 3) := by decide +kernel
theorem dX5_addMoved_27 : decode cX5_addMoved 27 = .ok (.iload_n 1, 1) := by decide +kernel
theorem dX5_addMoved_28 : decode cX5_addMoved 28 = .ok (.iload_n 3, 1) := by decide +kernel
theorem dX5_addMoved_29 : decode cX5_addMoved 29 = .ok (.iastore, 1) := by decide +kernel
theorem dX5_addMoved_30 : decode cX5_addMoved 30 = .ok (.aload_n 0, 1) := by decide +kernel
theorem dX5_addMoved_31 : decode cX5_addMoved 31 = .ok (.getfield 72, 3) := by decide +kernel
theorem dX5_addMoved_34 : decode cX5_addMoved 34 = .ok (.aload_n 0, 1) := by decide +kernel
theorem dX5_addMoved_35 : decode cX5_addMoved 35 = .ok (.getfield 178, 3) := by decide +kernel
theorem dX5_addMoved_38 : decode cX5_addMoved 38 = .ok (.iload_n 2, 1) := by decide +kernel
theorem dX5_addMoved_39 : decode cX5_addMoved 39 = .ok (.iastore, 1) := by decide +kernel
theorem dX5_addMoved_40 : decode cX5_addMoved 40 = .ok (.aload_n 0, 1) := by decide +kernel
theorem dX5_addMoved_41 : decode cX5_addMoved 41 = .ok (.getfield 63, 3) := by decide +kernel
theorem dX5_addMoved_44 : decode cX5_addMoved 44 = .ok (.aload_n 0, 1) := by decide +kernel
theorem dX5_addMoved_45 : decode cX5_addMoved 45 = .ok (.getfield 178, 3) := by decide +kernel
theorem dX5_addMoved_48 : decode cX5_addMoved 48 = .ok (.iload_n 1, 1) := by decide +kernel
theorem dX5_addMoved_49 : decode cX5_addMoved 49 = .ok (.iastore, 1) := by decide +kernel
theorem dX5_addMoved_50 : decode cX5_addMoved 50 = .ok (.aload_n 0, 1) := by decide +kernel
theorem dX5_addMoved_51 : decode cX5_addMoved 51 = .ok (.dup, 1) := by decide +kernel
theorem dX5_addMoved_52 : decode cX5_addMoved 52 = .ok (.getfield 178, 3) := by decide +kernel
theorem dX5_addMoved_55 : decode cX5_addMoved 55 = .ok (.iconst 1, 1) := by decide +kernel
theorem dX5_addMoved_56 : decode cX5_addMoved 56 = .ok (.iadd, 1) := by decide +kernel
theorem dX5_addMoved_57 : decode cX5_addMoved 57 = .ok (.putfield 178, 3) := by decide +kernel
theorem dX5_addMoved_60 : decode cX5_addMoved 60 = .ok (.return_, 1) := by decide +kernel
