theorem dJ7_fill_53178_0 : decode cJ7_fill_53178 0 = .ok (.iconst 0, 1) := by decide +kernel
theorem dJ7_fill_53178_1 : decode cJ7_fill_53178 1 = .ok (.istore_n 2, 1) := by decide +kernel
theorem dJ7_fill_53178_2 : decode cJ7_fill_53178 2 = .ok (.aload_n 0, 1) := by decide +kernel
theorem dJ7_fill_53178_3 : decode cJ7_fill_53178 3 = .ok (.arraylength, 1) := by decide +kernel
theorem dJ7_fill_53178_4 : decode cJ7_fill_53178 4 = .ok (.istore_n 3, 1) := by decide +kernel
theorem dJ7_fill_53178_5 : decode cJ7_fill_53178 5 = .ok (.iload_n 2, 1) := by decide +kernel
theorem dJ7_fill_53178_6 : decode cJ7_fill_53178 6 = .ok (.iload_n 3, 1) := by decide +kernel
theorem dJ7_fill_53178_7 : decode cJ7_fill_53178 7 = .ok (.if_icmp .ge 13, 3) := by decide +kernel
theorem dJ7_fill_53178_10 : decode cJ7_fill_53178 10 = .ok (.aload_n 0, 1) := by decide +kernel
theorem dJ7_fill_53178_11 : decode cJ7_fill_53178 11 = .ok (.iload_n 2, 1) := by decide +kernel
theorem dJ7_fill_53178_12 : decode cJ7_fill_53178 12 = .ok (.iload_n 1, 1) := by decide +kernel
theorem dJ7_fill_53178_13 : decode cJ7_fill_53178 13 = .ok (.iastore, 1) := by decide +kernel
theorem dJ7_fill_53178_14 : decode cJ7_fill_53178 14 = .ok (.iinc 2 1, 3) := by decide +kernel
theorem dJ7_fill_53178_17 : decode cJ7_fill_53178 17 = .ok (.goto (-12), 3) := by decide +kernel
theorem dJ7_fill_53178_20 : decode cJ7_fill_53178 20 = .ok (.return_, 1) := by decide +kernel
theorem dJ6_bitCount_0f7a4_0 : decode cJ6_bitCount_0f7a4 0 = .ok (.iload_n 0, 1) := by decide +kernel
theorem dJ6_bitCount_0f7a4_1 : decode cJ6_bitCount_0f7a4 1 = .ok (.iload_n 0, 1) := by decide +kernel
theorem dJ6_bitCount_0f7a4_2 : decode cJ6_bitCount_0f7a4 2 = .ok (.iconst 1, 1) := by decide +kernel
theorem dJ6_bitCount_0f7a4_3 : decode cJ6_bitCount_0f7a4 3 = .ok (.iushr, 1) := by decide +kernel
theorem dJ6_bitCount_0f7a4_4 : decode cJ6_bitCount_0f7a4 4 = .ok (.ldc_w 265, 3) := by decide +kernel
theorem dJ6_bitCount_0f7a4_7 : decode cJ6_bitCount_0f7a4 7 = .ok (.iand, 1) := by decide +kernel
theorem dJ6_bitCount_0f7a4_8 : decode cJ6_bitCount_0f7a4 8 = .ok (.isub, 1) := by decide +kernel
theorem dJ6_bitCount_0f7a4_9 : decode cJ6_bitCount_0f7a4 9 = .ok (.istore_n 0, 1) := by decide +kernel
theorem dJ6_bitCount_0f7a4_10 : decode cJ6_bitCount_0f7a4 10 = .ok (.iload_n 0, 1) := by decide +kernel
theorem dJ6_bitCount_0f7a4_11 : decode cJ6_bitCount_0f7a4 11 = .ok (.ldc_w 266, 3) := by decide +kernel
theorem dJ6_bitCount_0f7a4_14 : decode cJ6_bitCount_0f7a4 14 = .ok (.iand, 1) := by decide +kernel
theorem dJ6_bitCount_0f7a4_15 : decode cJ6_bitCount_0f7a4 15 = .ok (.iload_n 0, 1) := by decide +kernel
theorem dJ6_bitCount_0f7a4_16 : decode cJ6_bitCount_0f7a4 16 = .ok (.iconst 2, 1) := by decide +kernel
theorem dJ6_bitCount_0f7a4_17 : decode cJ6_bitCount_0f7a4 17 = .ok (.iushr, 1) := by decide +kernel
theorem dJ6_bitCount_0f7a4_18 : decode cJ6_bitCount_0f7a4 18 = .ok (.ldc_w 266, 3) := by decide +kernel
theorem dJ6_bitCount_0f7a4_21 : decode cJ6_bitCount_0f7a4 21 = .ok (.iand, 1) := by decide +kernel
theorem dJ6_bitCount_0f7a4_22 : decode cJ6_bitCount_0f7a4 22 = .ok (.iadd, 1) := by decide +kernel
theorem dJ6_bitCount_0f7a4_23 : decode cJ6_bitCount_0f7a4 23 = .ok (.istore_n 0, 1) := by decide +kernel
theorem dJ6_bitCount_0f7a4_24 : decode cJ6_bitCount_0f7a4 24 = .ok (.iload_n 0, 1) := by decide +kernel
theorem dJ6_bitCount_0f7a4_25 : decode cJ6_bitCount_0f7a4 25 = .ok (.iload_n 0, 1) := by decide +kernel
theorem dJ6_bitCount_0f7a4_26 : decode cJ6_bitCount_0f7a4 26 = .ok (.iconst 4, 1) := by decide +kernel
theorem dJ6_bitCount_0f7a4_27 : decode cJ6_bitCount_0f7a4 27 = .ok (.iushr, 1) := by decide +kernel
theorem dJ6_bitCount_0f7a4_28 : decode cJ6_bitCount_0f7a4 28 = .ok (.iadd, 1) := by decide +kernel
theorem dJ6_bitCount_0f7a4_29 : decode cJ6_bitCount_0f7a4 29 = .ok (.ldc_w 267, 3) := by decide +kernel
theorem dJ6_bitCount_0f7a4_32 : decode cJ6_bitCount_0f7a4 32 = .ok (.iand, 1) := by decide +kernel
theorem dJ6_bitCount_0f7a4_33 : decode cJ6_bitCount_0f7a4 33 = .ok (.istore_n 0, 1) := by decide +kernel
theorem dJ6_bitCount_0f7a4_34 : decode cJ6_bitCount_0f7a4 34 = .ok (.iload_n 0, 1) := by decide +kernel
theorem dJ6_bitCount_0f7a4_35 : decode cJ6_bitCount_0f7a4 35 = .ok (.iload_n 0, 1) := by decide +kernel
theorem dJ6_bitCount_0f7a4_36 : decode cJ6_bitCount_0f7a4 36 = .ok (.bipush 8, 2) := by decide +kernel
theorem dJ6_bitCount_0f7a4_38 : decode cJ6_bitCount_0f7a4 38 = .ok (.iushr, 1) := by decide +kernel
theorem dJ6_bitCount_0f7a4_39 : decode cJ6_bitCount_0f7a4 39 = .ok (.iadd, 1) := by decide +kernel
theorem dJ6_bitCount_0f7a4_40 : decode cJ6_bitCount_0f7a4 40 = .ok (.istore_n 0, 1) := by decide +kernel
theorem dJ6_bitCount_0f7a4_41 : decode cJ6_bitCount_0f7a4 41 = .ok (.iload_n 0, 1) := by decide +kernel
theorem dJ6_bitCount_0f7a4_42 : decode cJ6_bitCount_0f7a4 42 = .ok (.iload_n 0, 1) := by decide +kernel
theorem dJ6_bitCount_0f7a4_43 : decode cJ6_bitCount_0f7a4 43 = .ok (.bipush 16, 2) := by decide +kernel
theorem dJ6_bitCount_0f7a4_45 : decode cJ6_bitCount_0f7a4 45 = .ok (.iushr, 1) := by decide +kernel
theorem dJ6_bitCount_0f7a4_46 : decode cJ6_bitCount_0f7a4 46 = .ok (.iadd, 1) := by decide +kernel
theorem dJ6_bitCount_0f7a4_47 : decode cJ6_bitCount_0f7a4 47 = .ok (.istore_n 0, 1) := by decide +kernel
theorem dJ6_bitCount_0f7a4_48 : decode cJ6_bitCount_0f7a4 48 = .ok (.iload_n 0, 1) := by decide +kernel
theorem dJ6_bitCount_0f7a4_49 : decode cJ6_bitCount_0f7a4 49 = .ok (.bipush 63, 2) := by decide +kernel
theorem dJ6_bitCount_0f7a4_51 : decode cJ6_bitCount_0f7a4 51 = .ok (.iand, 1) := by decide +kernel
theorem dJ6_bitCount_0f7a4_52 : decode cJ6_bitCount_0f7a4 52 = .ok (.ireturn, 1) := by decide +kernel
theorem dJ9_floorMod_7cf53_0 : decode cJ9_floorMod_7cf53 0 = .ok (.iload_n 0, 1) := by decide +kernel
theorem dJ9_floorMod_7cf53_1 : decode cJ9_floorMod_7cf53 1 = .ok (.iload_n 1, 1) := by decide +kernel
theorem dJ9_floorMod_7cf53_2 : decode cJ9_floorMod_7cf53 2 = .ok (.irem, 1) := by decide +kernel
theorem dJ9_floorMod_7cf53_3 : decode cJ9_floorMod_7cf53 3 = .ok (.istore_n 2, 1) := by decide +kernel
theorem dJ9_floorMod_7cf53_4 : decode cJ9_floorMod_7cf53 4 = .ok (.iload_n 0, 1) := by decide +kernel
theorem dJ9_floorMod_7cf53_5 : decode cJ9_floorMod_7cf53 5 = .ok (.iload_n 1, 1) := by decide +kernel
theorem dJ9_floorMod_7cf53_6 : decode cJ9_floorMod_7cf53 6 = .ok (.ixor, 1) := by decide +kernel
theorem dJ9_floorMod_7cf53_7 : decode cJ9_floorMod_7cf53 7 = .ok (.ifCond .ge 11, 3) := by decide +kernel
theorem dJ9_floorMod_7cf53_10 : decode cJ9_floorMod_7cf53 10 = .ok (.iload_n 2, 1) := by decide +kernel
theorem dJ9_floorMod_7cf53_11 : decode cJ9_floorMod_7cf53 11 = .ok (.ifCond .eq 7, 3) := by decide +kernel
theorem dJ9_floorMod_7cf53_14 : decode cJ9_floorMod_7cf53 14 = .ok (.iload_n 2, 1) := by decide +kernel
theorem dJ9_floorMod_7cf53_15 : decode cJ9_floorMod_7cf53 15 = .ok (.iload_n 1, 1) := by decide +kernel
theorem dJ9_floorMod_7cf53_16 : decode cJ9_floorMod_7cf53 16 = .ok (.iadd, 1) := by decide +kernel
theorem dJ9_floorMod_7cf53_17 : decode cJ9_floorMod_7cf53 17 = .ok (.ireturn, 1) := by decide +kernel
theorem dJ9_floorMod_7cf53_18 : decode cJ9_floorMod_7cf53 18 = .ok (.iload_n 2, 1) := by decide +kernel
theorem dJ9_floorMod_7cf53_19 : decode cJ9_floorMod_7cf53 19 = .ok (.ireturn, 1) := by decide +kernel
theorem dJ9_abs_0f7a4_0 : decode cJ9_abs_0f7a4 0 = .ok (.iload_n 0, 1) := by decide +kernel
theorem dJ9_abs_0f7a4_1 : decode cJ9_abs_0f7a4 1 = .ok (.ifCond .ge 8, 3) := by decide +kernel
theorem dJ9_abs_0f7a4_4 : decode cJ9_abs_0f7a4 4 = .ok (.iload_n 0, 1) := by decide +kernel
theorem dJ9_abs_0f7a4_5 : decode cJ9_abs_0f7a4 5 = .ok (.ineg, 1) := by decide +kernel
theorem dJ9_abs_0f7a4_6 : decode cJ9_abs_0f7a4 6 = .ok (.goto 4, 3) := by decide +kernel
theorem dJ9_abs_0f7a4_9 : decode cJ9_abs_0f7a4 9 = .ok (.iload_n 0, 1) := by decide +kernel
theorem dJ9_abs_0f7a4_10 : decode cJ9_abs_0f7a4 10 = .ok (.ireturn, 1) := by decide +kernel
theorem dJ9_max_7cf53_0 : decode cJ9_max_7cf53 0 = .ok (.iload_n 0, 1) := by decide +kernel
theorem dJ9_max_7cf53_1 : decode cJ9_max_7cf53 1 = .ok (.iload_n 1, 1) := by decide +kernel
theorem dJ9_max_7cf53_2 : decode cJ9_max_7cf53 2 = .ok (.if_icmp .lt 7, 3) := by decide +kernel
theorem dJ9_max_7cf53_5 : decode cJ9_max_7cf53 5 = .ok (.iload_n 0, 1) := by decide +kernel
theorem dJ9_max_7cf53_6 : decode cJ9_max_7cf53 6 = .ok (.goto 4, 3) := by decide +kernel
theorem dJ9_max_7cf53_9 : decode cJ9_max_7cf53 9 = .ok (.iload_n 1, 1) := by decide +kernel
theorem dJ9_max_7cf53_10 : decode cJ9_max_7cf53 10 = .ok (.ireturn, 1) := by decide +kernel
theorem dJ9_min_7cf53_0 : decode cJ9_min_7cf53 0 = .ok (.iload_n 0, 1) := by decide +kernel
theorem dJ9_min_7cf53_1 : decode cJ9_min_7cf53 1 = .ok (.iload_n 1, 1) := by decide +kernel
theorem dJ9_min_7cf53_2 : decode cJ9_min_7cf53 2 = .ok (.if_icmp .gt 7, 3) := by decide +kernel
theorem dJ9_min_7cf53_5 : decode cJ9_min_7cf53 5 = .ok (.iload_n 0, 1) := by decide +kernel
theorem dJ9_min_7cf53_6 : decode cJ9_min_7cf53 6 = .ok (.goto 4, 3) := by decide +kernel
theorem dJ9_min_7cf53_9 : decode cJ9_min_7cf53 9 = .ok (.iload_n 1, 1) := by decide +kernel
theorem dJ9_min_7cf53_10 : decode cJ9_min_7cf53 10 = .ok (.ireturn, 1) := by decide +kernel
theorem dX4_isPosition_0 : decode cX4_isPosition 0 = .ok (.iload_n 0, 1) := by decide +kernel
theorem dX4_isPosition_1 : decode cX4_isPosition 1 = .ok (.ifCond .lt 13, 3) := by decide +kernel
theorem dX4_isPosition_4 : decode cX4_isPosition 4 = .ok (.iload_n 0, 1) := by decide +kernel
theorem dX4_isPosition_5 : decode cX4_isPosition 5 = .ok (.bipush 12, 2) := by decide +kernel
theorem dX4_isPosition_7 : decode cX4_isPosition 7 = .ok (.if_icmp .ge 7, 3) := by decide +kernel
theorem dX4_isPosition_10 : decode cX4_isPosition 10 = .ok (.iconst 1, 1) := by decide +kernel
theorem dX4_isPosition_11 : decode cX4_isPosition 11 = .ok (.goto 4, 3) := by decide +kernel
theorem dX4_isPosition_14 : decode cX4_isPosition 14 = .ok (.iconst 0, 1) := by decide +kernel
theorem dX4_isPosition_15 : decode cX4_isPosition 15 = .ok (.ireturn, 1) := by decide +kernel
theorem dX4_isEnd_0 : decode cX4_isEnd 0 = .ok (.iload_n 0, 1) := by decide +kernel
theorem dX4_isEnd_1 : decode cX4_isEnd 1 = .ok (.ifCond .eq 8, 3) := by decide +kernel
theorem dX4_isEnd_4 : decode cX4_isEnd 4 = .ok (.iload_n 0, 1) := by decide +kernel
theorem dX4_isEnd_5 : decode cX4_isEnd 5 = .ok (.iconst 1, 1) := by decide +kernel
theorem dX4_isEnd_6 : decode cX4_isEnd 6 = .ok (.if_icmp .ne 7, 3) := by decide +kernel
theorem dX4_isEnd_9 : decode cX4_isEnd 9 = .ok (.iconst 1, 1) := by decide +kernel
theorem dX4_isEnd_10 : decode cX4_isEnd 10 = .ok (.goto 4, 3) := by decide +kernel
theorem dX4_isEnd_13 : decode cX4_isEnd 13 = .ok (.iconst 0, 1) := by decide +kernel
theorem dX4_isEnd_14 : decode cX4_isEnd 14 = .ok (.ireturn, 1) := by decide +kernel
theorem dX4_isSlot_0 : decode cX4_isSlot 0 = .ok (.iload_n 0, 1) := by decide +kernel
theorem dX4_isSlot_1 : decode cX4_isSlot 1 = .ok (.ifCond .lt 12, 3) := by decide +kernel
theorem dX4_isSlot_4 : decode cX4_isSlot 4 = .ok (.iload_n 0, 1) := by decide +kernel
theorem dX4_isSlot_5 : decode cX4_isSlot 5 = .ok (.iconst 2, 1) := by decide +kernel
theorem dX4_isSlot_6 : decode cX4_isSlot 6 = .ok (.if_icmp .ge 7, 3) := by decide +kernel
theorem dX4_isSlot_9 : decode cX4_isSlot 9 = .ok (.iconst 1, 1) := by decide +kernel
theorem dX4_isSlot_10 : decode cX4_isSlot 10 = .ok (.goto 4, 3) := by decide +kernel
theorem dX4_isSlot_13 : decode cX4_isSlot 13 = .ok (.iconst 0, 1) := by decide +kernel
theorem dX4_isSlot_14 : decode cX4_isSlot 14 = .ok (.ireturn, 1) := by decide +kernel
theorem dX4_endOf_0 : decode cX4_endOf 0 = .ok (.iload_n 0, 1) := by decide +kernel
theorem dX4_endOf_1 : decode cX4_endOf 1 = .ok (.bipush 10, 2) := by decide +kernel
theorem dX4_endOf_3 : decode cX4_endOf 3 = .ok (.if_icmp .eq 9, 3) := by decide +kernel
theorem dX4_endOf_6 : decode cX4_endOf 6 = .ok (.iload_n 0, 1) := by decide +kernel
theorem dX4_endOf_7 : decode cX4_endOf 7 = .ok (.bipush 30, 2) := by decide +kernel
theorem dX4_endOf_9 : decode cX4_endOf 9 = .ok (.if_icmp .ne 7, 3) := by decide +kernel
theorem dX4_endOf_12 : decode cX4_endOf 12 = .ok (.iconst 0, 1) := by decide +kernel
theorem dX4_endOf_13 : decode cX4_endOf 13 = .ok (.goto 4, 3) := by decide +kernel
theorem dX4_endOf_16 : decode cX4_endOf 16 = .ok (.iconst 1, 1) := by decide +kernel
theorem dX4_endOf_17 : decode cX4_endOf 17 = .ok (.ireturn, 1) := by decide +kernel
theorem dX4_reverseOf_0 : decode cX4_reverseOf 0 = .ok (.iload_n 0, 1) := by decide +kernel
theorem dX4_reverseOf_1 : decode cX4_reverseOf 1 = .ok (.ifCond .ne 5, 3) := by decide +kernel
theorem dX4_reverseOf_4 : decode cX4_reverseOf 4 = .ok (.iconst 1, 1) := by decide +kernel
theorem dX4_reverseOf_5 : decode cX4_reverseOf 5 = .ok (.ireturn, 1) := by decide +kernel
theorem dX4_reverseOf_6 : decode cX4_reverseOf 6 = .ok (.iload_n 0, 1) := by decide +kernel
theorem dX4_reverseOf_7 : decode cX4_reverseOf 7 = .ok (.iconst 1, 1) := by decide +kernel
theorem dX4_reverseOf_8 : decode cX4_reverseOf 8 = .ok (.if_icmp .ne 5, 3) := by decide +kernel
theorem dX4_reverseOf_11 : decode cX4_reverseOf 11 = .ok (.iconst 0, 1) := by decide +kernel
theorem dX4_reverseOf_12 : decode cX4_reverseOf 12 = .ok (.ireturn, 1) := by decide +kernel
theorem dX4_reverseOf_13 : decode cX4_reverseOf 13 = .ok (.iload_n 0, 1) := by decide +kernel
theorem dX4_reverseOf_14 : decode cX4_reverseOf 14 = .ok (.bipush 30, 2) := by decide +kernel
theorem dX4_reverseOf_16 : decode cX4_reverseOf 16 = .ok (.if_icmp .ge 10, 3) := by decide +kernel
theorem dX4_reverseOf_19 : decode cX4_reverseOf 19 = .ok (.iload_n 0, 1) := by decide +kernel
theorem dX4_reverseOf_20 : decode cX4_reverseOf 20 = .ok (.bipush 20, 2) := by decide +kernel
theorem dX4_reverseOf_22 : decode cX4_reverseOf 22 = .ok (.iadd, 1) := by decide +kernel
theorem dX4_reverseOf_23 : decode cX4_reverseOf 23 = .ok (.goto 7, 3) := by decide +kernel
theorem dX4_reverseOf_26 : decode cX4_reverseOf 26 = .ok (.iload_n 0, 1) := by decide +kernel
theorem dX4_reverseOf_27 : decode cX4_reverseOf 27 = .ok (.bipush 20, 2) := by decide +kernel
theorem dX4_reverseOf_29 : decode cX4_reverseOf 29 = .ok (.isub, 1) := by decide +kernel
theorem dX4_reverseOf_30 : decode cX4_reverseOf 30 = .ok (.ireturn, 1) := by decide +kernel
theorem dX0_append_0 : decode cX0_append 0 = .ok (.aload_n 0, 1) := by decide +kernel
theorem dX0_append_1 : decode cX0_append 1 = .ok (.getfield 15, 3) := by decide +kernel
theorem dX0_append_4 : decode cX0_append 4 = .ok (.bipush 40, 2) := by decide +kernel
theorem dX0_append_6 : decode cX0_append 6 = .ok (.if_icmp .lt 37, 3) := by decide +kernel
theorem dX0_append_9 : decode cX0_append 9 = .ok (.iconst 1, 1) := by decide +kernel
theorem dX0_append_10 : decode cX0_append 10 = .ok (.istore_n 2, 1) := by decide +kernel
theorem dX0_append_11 : decode cX0_append 11 = .ok (.iload_n 2, 1) := by decide +kernel
theorem dX0_append_12 : decode cX0_append 12 = .ok (.bipush 40, 2) := by decide +kernel
theorem dX0_append_14 : decode cX0_append 14 = .ok (.if_icmp .ge 23, 3) := by decide +kernel
theorem dX0_append_17 : decode cX0_append 17 = .ok (.aload_n 0, 1) := by decide +kernel
theorem dX0_append_18 : decode cX0_append 18 = .ok (.getfield 9, 3) := by decide +kernel
theorem dX0_append_21 : decode cX0_append 21 = .ok (.iload_n 2, 1) := by decide +kernel
theorem dX0_append_22 : decode cX0_append 22 = .ok (.iconst 1, 1) := by decide +kernel
theorem dX0_append_23 : decode cX0_append 23 = .ok (.isub, 1) := by decide +kernel
theorem dX0_append_24 : decode cX0_append 24 = .ok (.aload_n 0, 1) := by decide +kernel
theorem dX0_append_25 : decode cX0_append 25 = .ok (.getfield 9, 3) := by decide +kernel
theorem dX0_append_28 : decode cX0_append 28 = .ok (.iload_n 2, 1) := by decide +kernel
theorem dX0_append_29 : decode cX0_append 29 = .ok (.iaload, 1) := by decide +kernel
theorem dX0_append_30 : decode cX0_append 30 = .ok (.iastore, 1) := by decide +kernel
theorem dX0_append_31 : decode cX0_append 31 = .ok (.iinc 2 1, 3) := by decide +kernel
theorem dX0_append_34 : decode cX0_append 34 = .ok (.goto (-23), 3) := by decide +kernel
theorem dX0_append_37 : decode cX0_append 37 = .ok (.aload_n 0, 1) := by decide +kernel
theorem dX0_append_38 : decode cX0_append 38 = .ok (.bipush 39, 2) := by decide +kernel
theorem dX0_append_40 : decode cX0_append 40 = .ok (.putfield 15, 3) := by decide +kernel
theorem dX0_append_43 : decode cX0_append 43 = .ok (.aload_n 0, 1) := by decide +kernel
theorem dX0_append_44 : decode cX0_append 44 = .ok (.getfield 15, 3) := by decide +kernel
theorem dX0_append_47 : decode cX0_append 47 = .ok (.ifCond .lt 23, 3) := by decide +kernel
theorem dX0_append_50 : decode cX0_append 50 = .ok (.aload_n 0, 1) := by decide +kernel
theorem dX0_append_51 : decode cX0_append 51 = .ok (.getfield 9, 3) := by decide +kernel
theorem dX0_append_54 : decode cX0_append 54 = .ok (.aload_n 0, 1) := by decide +kernel
theorem dX0_append_55 : decode cX0_append 55 = .ok (.getfield 15, 3) := by decide +kernel
theorem dX0_append_58 : decode cX0_append 58 = .ok (.iload_n 1, 1) := by decide +kernel
theorem dX0_append_59 : decode cX0_append 59 = .ok (.iastore, 1) := by decide +kernel
theorem dX0_append_60 : decode cX0_append 60 = .ok (.aload_n 0, 1) := by decide +kernel
theorem dX0_append_61 : decode cX0_append 61 = .ok (.dup, 1) := by decide +kernel
theorem dX0_append_62 : decode cX0_append 62 = .ok (.getfield 15, 3) := by decide +kernel
theorem dX0_append_65 : decode cX0_append 65 = .ok (.iconst 1, 1) := by decide +kernel
theorem dX0_append_66 : decode cX0_append 66 = .ok (.iadd, 1) := by decide +kernel
theorem dX0_append_67 : decode cX0_append 67 = .ok (.putfield 15, 3) := by decide +kernel
theorem dX0_append_70 : decode cX0_append 70 = .ok (.return_, 1) := by decide +kernel
theorem dX0_forgetAll_0 : decode cX0_forgetAll 0 = .ok (.aload_n 0, 1) := by decide +kernel
theorem dX0_forgetAll_1 : decode cX0_forgetAll 1 = .ok (.iconst 0, 1) := by decide +kernel
theorem dX0_forgetAll_2 : decode cX0_forgetAll 2 = .ok (.putfield 15, 3) := by decide +kernel
theorem dX0_forgetAll_5 : decode cX0_forgetAll 5 = .ok (.return_, 1) := by decide +kernel
theorem dX0_latest_0 : decode cX0_latest 0 = .ok (.iload_n 1, 1) := by decide +kernel
theorem dX0_latest_1 : decode cX0_latest 1 = .ok (.ifCond .lt 36, 3) := by decide +kernel
theorem dX0_latest_4 : decode cX0_latest 4 = .ok (.iload_n 1, 1) := by decide +kernel
theorem dX0_latest_5 : decode cX0_latest 5 = .ok (.aload_n 0, 1) := by decide +kernel
theorem dX0_latest_6 : decode cX0_latest 6 = .ok (.getfield 15, 3) := by decide +kernel
theorem dX0_latest_9 : decode cX0_latest 9 = .ok (.if_icmp .ge 28, 3) := by decide +kernel
theorem dX0_latest_12 : decode cX0_latest 12 = .ok (.aload_n 0, 1) := by decide +kernel
theorem dX0_latest_13 : decode cX0_latest 13 = .ok (.getfield 15, 3) := by decide +kernel
theorem dX0_latest_16 : decode cX0_latest 16 = .ok (.bipush 40, 2) := by decide +kernel
theorem dX0_latest_18 : decode cX0_latest 18 = .ok (.if_icmp .gt 19, 3) := by decide +kernel
theorem dX0_latest_21 : decode cX0_latest 21 = .ok (.aload_n 0, 1) := by decide +kernel
theorem dX0_latest_22 : decode cX0_latest 22 = .ok (.getfield 9, 3) := by decide +kernel
theorem dX0_latest_25 : decode cX0_latest 25 = .ok (.aload_n 0, 1) := by decide +kernel
theorem dX0_latest_26 : decode cX0_latest 26 = .ok (.getfield 15, 3) := by decide +kernel
theorem dX0_latest_29 : decode cX0_latest 29 = .ok (.iconst 1, 1) := by decide +kernel
theorem dX0_latest_30 : decode cX0_latest 30 = .ok (.isub, 1) := by decide +kernel
theorem dX0_latest_31 : decode cX0_latest 31 = .ok (.iload_n 1, 1) := by decide +kernel
theorem dX0_latest_32 : decode cX0_latest 32 = .ok (.isub, 1) := by decide +kernel
theorem dX0_latest_33 : decode cX0_latest 33 = .ok (.iaload, 1) := by decide +kernel
theorem dX0_latest_34 : decode cX0_latest 34 = .ok (.goto 5, 3) := by decide +kernel
theorem dX0_latest_37 : decode cX0_latest 37 = .ok (.bipush (-11), 2) := by decide +kernel
theorem dX0_latest_39 : decode cX0_latest 39 = .ok (.ireturn, 1) := by decide +kernel
theorem dX0_removeLatest_0 : decode cX0_removeLatest 0 = .ok (.aload_n 0, 1) := by decide +kernel
theorem dX0_removeLatest_1 : decode cX0_removeLatest 1 = .ok (.iconst 0, 1) := by decide +kernel
theorem dX0_removeLatest_2 : decode cX0_removeLatest 2 = .ok (.invokevirtual 19, 3) := by decide +kernel
theorem dX0_removeLatest_5 : decode cX0_removeLatest 5 = .ok (.istore_n 1, 1) := by decide +kernel
theorem dX0_removeLatest_6 : decode cX0_removeLatest 6 = .ok (.iload_n 1, 1) := by decide +kernel
theorem dX0_removeLatest_7 : decode cX0_removeLatest 7 = .ok (.bipush (-11), 2) := by decide +kernel
theorem dX0_removeLatest_9 : decode cX0_removeLatest 9 = .ok (.if_icmp .eq 13, 3) := by decide +kernel
theorem dX0_removeLatest_12 : decode cX0_removeLatest 12 = .ok (.aload_n 0, 1) := by decide +kernel
theorem dX0_removeLatest_13 : decode cX0_removeLatest 13 = .ok (.dup, 1) := by decide +kernel
theorem dX0_removeLatest_14 : decode cX0_removeLatest 14 = .ok (.getfield 15, 3) := by decide +kernel
theorem dX0_removeLatest_17 : decode cX0_removeLatest 17 = .ok (.iconst 1, 1) := by decide +kernel
theorem dX0_removeLatest_18 : decode cX0_removeLatest 18 = .ok (.isub, 1) := by decide +kernel
theorem dX0_removeLatest_19 : decode cX0_removeLatest 19 = .ok (.putfield 15, 3) := by decide +kernel
theorem dX0_removeLatest_22 : decode cX0_removeLatest 22 = .ok (.iload_n 1, 1) := by decide +kernel
theorem dX0_removeLatest_23 : decode cX0_removeLatest 23 = .ok (.ireturn, 1) := by decide +kernel
theorem dX2_reset_0 : decode cX2_reset 0 = .ok (.aload_n 0, 1) := by decide +kernel
theorem dX2_reset_1 : decode cX2_reset 1 = .ok (.iconst 0, 1) := by decide +kernel
theorem dX2_reset_2 : decode cX2_reset 2 = .ok (.putfield 15, 3) := by decide +kernel
theorem dX2_reset_5 : decode cX2_reset 5 = .ok (.aload_n 0, 1) := by decide +kernel
theorem dX2_reset_6 : decode cX2_reset 6 = .ok (.iconst 0, 1) := by decide +kernel
theorem dX2_reset_7 : decode cX2_reset 7 = .ok (.putfield 19, 3) := by decide +kernel
theorem dX2_reset_10 : decode cX2_reset 10 = .ok (.return_, 1) := by decide +kernel
theorem dX2_add_0 : decode cX2_add 0 = .ok (.aload_n 0, 1) := by decide +kernel
theorem dX2_add_1 : decode cX2_add 1 = .ok (.getfield 19, 3) := by decide +kernel
theorem dX2_add_4 : decode cX2_add 4 = .ok (.ifCond .lt 33, 3) := by decide +kernel
theorem dX2_add_7 : decode cX2_add 7 = .ok (.aload_n 0, 1) := by decide +kernel
theorem dX2_add_8 : decode cX2_add 8 = .ok (.getfield 19, 3) := by decide +kernel
theorem dX2_add_11 : decode cX2_add 11 = .ok (.sipush 4032, 3) := by decide +kernel
theorem dX2_add_14 : decode cX2_add 14 = .ok (.if_icmp .ge 23, 3) := by decide +kernel
theorem dX2_add_17 : decode cX2_add 17 = .ok (.aload_n 0, 1) := by decide +kernel
theorem dX2_add_18 : decode cX2_add 18 = .ok (.getfield 9, 3) := by decide +kernel
theorem dX2_add_21 : decode cX2_add 21 = .ok (.aload_n 0, 1) := by decide +kernel
theorem dX2_add_22 : decode cX2_add 22 = .ok (.getfield 19, 3) := by decide +kernel
theorem dX2_add_25 : decode cX2_add 25 = .ok (.iload_n 1, 1) := by decide +kernel
theorem dX2_add_26 : decode cX2_add 26 = .ok (.iastore, 1) := by decide +kernel
theorem dX2_add_27 : decode cX2_add 27 = .ok (.aload_n 0, 1) := by decide +kernel
theorem dX2_add_28 : decode cX2_add 28 = .ok (.dup, 1) := by decide +kernel
theorem dX2_add_29 : decode cX2_add 29 = .ok (.getfield 19, 3) := by decide +kernel
theorem dX2_add_32 : decode cX2_add 32 = .ok (.iconst 1, 1) := by decide +kernel
theorem dX2_add_33 : decode cX2_add 33 = .ok (.iadd, 1) := by decide +kernel
theorem dX2_add_34 : decode cX2_add 34 = .ok (.putfield 19, 3) := by decide +kernel
theorem dX2_add_37 : decode cX2_add 37 = .ok (.return_, 1) := by decide +kernel
theorem dX2_first_0 : decode cX2_first 0 = .ok (.aload_n 0, 1) := by decide +kernel
theorem dX2_first_1 : decode cX2_first 1 = .ok (.getfield 15, 3) := by decide +kernel
theorem dX2_first_4 : decode cX2_first 4 = .ok (.ifCond .lt 36, 3) := by decide +kernel
theorem dX2_first_7 : decode cX2_first 7 = .ok (.aload_n 0, 1) := by decide +kernel
theorem dX2_first_8 : decode cX2_first 8 = .ok (.getfield 15, 3) := by decide +kernel
theorem dX2_first_11 : decode cX2_first 11 = .ok (.aload_n 0, 1) := by decide +kernel
theorem dX2_first_12 : decode cX2_first 12 = .ok (.getfield 19, 3) := by decide +kernel
theorem dX2_first_15 : decode cX2_first 15 = .ok (.if_icmp .ge 25, 3) := by decide +kernel
theorem dX2_first_18 : decode cX2_first 18 = .ok (.aload_n 0, 1) := by decide +kernel
theorem dX2_first_19 : decode cX2_first 19 = .ok (.getfield 15, 3) := by decide +kernel
theorem dX2_first_22 : decode cX2_first 22 = .ok (.sipush 4032, 3) := by decide +kernel
theorem dX2_first_25 : decode cX2_first 25 = .ok (.if_icmp .ge 15, 3) := by decide +kernel
theorem dX2_first_28 : decode cX2_first 28 = .ok (.aload_n 0, 1) := by decide +kernel
theorem dX2_first_29 : decode cX2_first 29 = .ok (.getfield 9, 3) := by decide +kernel
theorem dX2_first_32 : decode cX2_first 32 = .ok (.aload_n 0, 1) := by decide +kernel
theorem dX2_first_33 : decode cX2_first 33 = .ok (.getfield 15, 3) := by decide +kernel
theorem dX2_first_36 : decode cX2_first 36 = .ok (.iaload, 1) := by decide +kernel
theorem dX2_first_37 : decode cX2_first 37 = .ok (.goto 5, 3) := by decide +kernel
theorem dX2_first_40 : decode cX2_first 40 = .ok (.bipush (-11), 2) := by decide +kernel
theorem dX2_first_42 : decode cX2_first 42 = .ok (.ireturn, 1) := by decide +kernel
theorem dX2_removeFirst_0 : decode cX2_removeFirst 0 = .ok (.aload_n 0, 1) := by decide +kernel
theorem dX2_removeFirst_1 : decode cX2_removeFirst 1 = .ok (.invokevirtual 22, 3) := by decide +kernel
theorem dX2_removeFirst_4 : decode cX2_removeFirst 4 = .ok (.istore_n 1, 1) := by decide +kernel
theorem dX2_removeFirst_5 : decode cX2_removeFirst 5 = .ok (.iload_n 1, 1) := by decide +kernel
theorem dX2_removeFirst_6 : decode cX2_removeFirst 6 = .ok (.bipush (-11), 2) := by decide +kernel
theorem dX2_removeFirst_8 : decode cX2_removeFirst 8 = .ok (.if_icmp .eq 13, 3) := by decide +kernel
theorem dX2_removeFirst_11 : decode cX2_removeFirst 11 = .ok (.aload_n 0, 1) := by decide +kernel
theorem dX2_removeFirst_12 : decode cX2_removeFirst 12 = .ok (.dup, 1) := by decide +kernel
theorem dX2_removeFirst_13 : decode cX2_removeFirst 13 = .ok (.getfield 15, 3) := by decide +kernel
theorem dX2_removeFirst_16 : decode cX2_removeFirst 16 = .ok (.iconst 1, 1) := by decide +kernel
theorem dX2_removeFirst_17 : decode cX2_removeFirst 17 = .ok (.iadd, 1) := by decide +kernel
theorem dX2_removeFirst_18 : decode cX2_removeFirst 18 = .ok (.putfield 15, 3) := by decide +kernel
theorem dX2_removeFirst_21 : decode cX2_removeFirst 21 = .ok (.iload_n 1, 1) := by decide +kernel
theorem dX2_removeFirst_22 : decode cX2_removeFirst 22 = .ok (.ireturn, 1) := by decide +kernel
theorem dX3_copyFrom_0 : decode cX3_copyFrom 0 = .ok (.aload_n 1, 1) := by decide +kernel
theorem dX3_copyFrom_1 : decode cX3_copyFrom 1 = .ok (.getfield 9, 3) := by decide +kernel
theorem dX3_copyFrom_4 : decode cX3_copyFrom 4 = .ok (.iconst 0, 1) := by decide +kernel
theorem dX3_copyFrom_5 : decode cX3_copyFrom 5 = .ok (.aload_n 0, 1) := by decide +kernel
theorem dX3_copyFrom_6 : decode cX3_copyFrom 6 = .ok (.getfield 9, 3) := by decide +kernel
theorem dX3_copyFrom_9 : decode cX3_copyFrom 9 = .ok (.iconst 0, 1) := by decide +kernel
theorem dX3_copyFrom_10 : decode cX3_copyFrom 10 = .ok (.bipush 13, 2) := by decide +kernel
theorem dX3_copyFrom_12 : decode cX3_copyFrom 12 = .ok (.invokestatic 27, 3) := by decide +kernel
theorem dX3_copyFrom_15 : decode cX3_copyFrom 15 = .ok (.aload_n 1, 1) := by decide +kernel
theorem dX3_copyFrom_16 : decode cX3_copyFrom 16 = .ok (.getfield 15, 3) := by decide +kernel
theorem dX3_copyFrom_19 : decode cX3_copyFrom 19 = .ok (.iconst 0, 1) := by decide +kernel
theorem dX3_copyFrom_20 : decode cX3_copyFrom 20 = .ok (.aload_n 0, 1) := by decide +kernel
theorem dX3_copyFrom_21 : decode cX3_copyFrom 21 = .ok (.getfield 15, 3) := by decide +kernel
theorem dX3_copyFrom_24 : decode cX3_copyFrom 24 = .ok (.iconst 0, 1) := by decide +kernel
theorem dX3_copyFrom_25 : decode cX3_copyFrom 25 = .ok (.bipush 13, 2) := by decide +kernel
theorem dX3_copyFrom_27 : decode cX3_copyFrom 27 = .ok (.invokestatic 27, 3) := by decide +kernel
theorem dX3_copyFrom_30 : decode cX3_copyFrom 30 = .ok (.aload_n 1, 1) := by decide +kernel
theorem dX3_copyFrom_31 : decode cX3_copyFrom 31 = .ok (.getfield 18, 3) := by decide +kernel
theorem dX3_copyFrom_34 : decode cX3_copyFrom 34 = .ok (.iconst 0, 1) := by decide +kernel
theorem dX3_copyFrom_35 : decode cX3_copyFrom 35 = .ok (.aload_n 0, 1) := by decide +kernel
theorem dX3_copyFrom_36 : decode cX3_copyFrom 36 = .ok (.getfield 18, 3) := by decide +kernel
theorem dX3_copyFrom_39 : decode cX3_copyFrom 39 = .ok (.iconst 0, 1) := by decide +kernel
theorem dX3_copyFrom_40 : decode cX3_copyFrom 40 = .ok (.bipush 13, 2) := by decide +kernel
theorem dX3_copyFrom_42 : decode cX3_copyFrom 42 = .ok (.invokestatic 27, 3) := by decide +kernel
theorem dX3_copyFrom_45 : decode cX3_copyFrom 45 = .ok (.aload_n 1, 1) := by decide +kernel
theorem dX3_copyFrom_46 : decode cX3_copyFrom 46 = .ok (.getfield 21, 3) := by decide +kernel
theorem dX3_copyFrom_49 : decode cX3_copyFrom 49 = .ok (.iconst 0, 1) := by decide +kernel
theorem dX3_copyFrom_50 : decode cX3_copyFrom 50 = .ok (.aload_n 0, 1) := by decide +kernel
theorem dX3_copyFrom_51 : decode cX3_copyFrom 51 = .ok (.getfield 21, 3) := by decide +kernel
theorem dX3_copyFrom_54 : decode cX3_copyFrom 54 = .ok (.iconst 0, 1) := by decide +kernel
theorem dX3_copyFrom_55 : decode cX3_copyFrom 55 = .ok (.bipush 104, 2) := by decide +kernel
theorem dX3_copyFrom_57 : decode cX3_copyFrom 57 = .ok (.invokestatic 27, 3) := by decide +kernel
theorem dX3_copyFrom_60 : decode cX3_copyFrom 60 = .ok (.aload_n 1, 1) := by decide +kernel
theorem dX3_copyFrom_61 : decode cX3_copyFrom 61 = .ok (.getfield 24, 3) := by decide +kernel
theorem dX3_copyFrom_64 : decode cX3_copyFrom 64 = .ok (.iconst 0, 1) := by decide +kernel
theorem dX3_copyFrom_65 : decode cX3_copyFrom 65 = .ok (.aload_n 0, 1) := by decide +kernel
theorem dX3_copyFrom_66 : decode cX3_copyFrom 66 = .ok (.getfield 24, 3) := by decide +kernel
theorem dX3_copyFrom_69 : decode cX3_copyFrom 69 = .ok (.iconst 0, 1) := by decide +kernel
theorem dX3_copyFrom_70 : decode cX3_copyFrom 70 = .ok (.bipush 8, 2) := by decide +kernel
theorem dX3_copyFrom_72 : decode cX3_copyFrom 72 = .ok (.invokestatic 27, 3) := by decide +kernel
theorem dX3_copyFrom_75 : decode cX3_copyFrom 75 = .ok (.aload_n 0, 1) := by decide +kernel
theorem dX3_copyFrom_76 : decode cX3_copyFrom 76 = .ok (.aload_n 1, 1) := by decide +kernel
theorem dX3_copyFrom_77 : decode cX3_copyFrom 77 = .ok (.getfield 33, 3) := by decide +kernel
theorem dX3_copyFrom_80 : decode cX3_copyFrom 80 = .ok (.putfield 33, 3) := by decide +kernel
theorem dX3_copyFrom_83 : decode cX3_copyFrom 83 = .ok (.aload_n 0, 1) := by decide +kernel
theorem dX3_copyFrom_84 : decode cX3_copyFrom 84 = .ok (.aload_n 1, 1) := by decide +kernel
theorem dX3_copyFrom_85 : decode cX3_copyFrom 85 = .ok (.getfield 37, 3) := by decide +kernel
theorem dX3_copyFrom_88 : decode cX3_copyFrom 88 = .ok (.putfield 37, 3) := by decide +kernel
theorem dX3_copyFrom_91 : decode cX3_copyFrom 91 = .ok (.aload_n 0, 1) := by decide +kernel
theorem dX3_copyFrom_92 : decode cX3_copyFrom 92 = .ok (.aload_n 1, 1) := by decide +kernel
theorem dX3_copyFrom_93 : decode cX3_copyFrom 93 = .ok (.getfield 40, 3) := by decide +kernel
theorem dX3_copyFrom_96 : decode cX3_copyFrom 96 = .ok (.putfield 40, 3) := by decide +kernel
theorem dX3_copyFrom_99 : decode cX3_copyFrom 99 = .ok (.return_, 1) := by decide +kernel
theorem dX3_isLocomotive_0 : decode cX3_isLocomotive 0 = .ok (.iload_n 1, 1) := by decide +kernel
theorem dX3_isLocomotive_1 : decode cX3_isLocomotive 1 = .ok (.ifCond .lt 21, 3) := by decide +kernel
theorem dX3_isLocomotive_4 : decode cX3_isLocomotive 4 = .ok (.iload_n 1, 1) := by decide +kernel
theorem dX3_isLocomotive_5 : decode cX3_isLocomotive 5 = .ok (.aload_n 0, 1) := by decide +kernel
theorem dX3_isLocomotive_6 : decode cX3_isLocomotive 6 = .ok (.getfield 33, 3) := by decide +kernel
theorem dX3_isLocomotive_9 : decode cX3_isLocomotive 9 = .ok (.if_icmp .ge 13, 3) := by decide +kernel
theorem dX3_isLocomotive_12 : decode cX3_isLocomotive 12 = .ok (.iload_n 1, 1) := by decide +kernel
theorem dX3_isLocomotive_13 : decode cX3_isLocomotive 13 = .ok (.bipush 8, 2) := by decide +kernel
theorem dX3_isLocomotive_15 : decode cX3_isLocomotive 15 = .ok (.if_icmp .ge 7, 3) := by decide +kernel
theorem dX3_isLocomotive_18 : decode cX3_isLocomotive 18 = .ok (.iconst 1, 1) := by decide +kernel
theorem dX3_isLocomotive_19 : decode cX3_isLocomotive 19 = .ok (.goto 4, 3) := by decide +kernel
theorem dX3_isLocomotive_22 : decode cX3_isLocomotive 22 = .ok (.iconst 0, 1) := by decide +kernel
theorem dX3_isLocomotive_23 : decode cX3_isLocomotive 23 = .ok (.ireturn, 1) := by decide +kernel
theorem dX3_isAlive_0 : decode cX3_isAlive 0 = .ok (.aload_n 0, 1) := by decide +kernel
theorem dX3_isAlive_1 : decode cX3_isAlive 1 = .ok (.iload_n 1, 1) := by decide +kernel
theorem dX3_isAlive_2 : decode cX3_isAlive 2 = .ok (.invokevirtual 43, 3) := by decide +kernel
theorem dX3_isAlive_5 : decode cX3_isAlive 5 = .ok (.ifCond .eq 18, 3) := by decide +kernel
theorem dX3_isAlive_8 : decode cX3_isAlive 8 = .ok (.aload_n 0, 1) := by decide +kernel
theorem dX3_isAlive_9 : decode cX3_isAlive 9 = .ok (.getfield 37, 3) := by decide +kernel
theorem dX3_isAlive_12 : decode cX3_isAlive 12 = .ok (.iload_n 1, 1) := by decide +kernel
theorem dX3_isAlive_13 : decode cX3_isAlive 13 = .ok (.ishr, 1) := by decide +kernel
theorem dX3_isAlive_14 : decode cX3_isAlive 14 = .ok (.iconst 1, 1) := by decide +kernel
theorem dX3_isAlive_15 : decode cX3_isAlive 15 = .ok (.iand, 1) := by decide +kernel
theorem dX3_isAlive_16 : decode cX3_isAlive 16 = .ok (.ifCond .ne 7, 3) := by decide +kernel
theorem dX3_isAlive_19 : decode cX3_isAlive 19 = .ok (.iconst 1, 1) := by decide +kernel
theorem dX3_isAlive_20 : decode cX3_isAlive 20 = .ok (.goto 4, 3) := by decide +kernel
theorem dX3_isAlive_23 : decode cX3_isAlive 23 = .ok (.iconst 0, 1) := by decide +kernel
theorem dX3_isAlive_24 : decode cX3_isAlive 24 = .ok (.ireturn, 1) := by decide +kernel
theorem dX3_sizeOf_0 : decode cX3_sizeOf 0 = .ok (.iload_n 1, 1) := by decide +kernel
theorem dX3_sizeOf_1 : decode cX3_sizeOf 1 = .ok (.ifCond .lt 18, 3) := by decide +kernel
theorem dX3_sizeOf_4 : decode cX3_sizeOf 4 = .ok (.iload_n 1, 1) := by decide +kernel
theorem dX3_sizeOf_5 : decode cX3_sizeOf 5 = .ok (.bipush 8, 2) := by decide +kernel
theorem dX3_sizeOf_7 : decode cX3_sizeOf 7 = .ok (.if_icmp .ge 12, 3) := by decide +kernel
theorem dX3_sizeOf_10 : decode cX3_sizeOf 10 = .ok (.aload_n 0, 1) := by decide +kernel
theorem dX3_sizeOf_11 : decode cX3_sizeOf 11 = .ok (.getfield 24, 3) := by decide +kernel
theorem dX3_sizeOf_14 : decode cX3_sizeOf 14 = .ok (.iload_n 1, 1) := by decide +kernel
theorem dX3_sizeOf_15 : decode cX3_sizeOf 15 = .ok (.iaload, 1) := by decide +kernel
theorem dX3_sizeOf_16 : decode cX3_sizeOf 16 = .ok (.goto 4, 3) := by decide +kernel
theorem dX3_sizeOf_19 : decode cX3_sizeOf 19 = .ok (.iconst 0, 1) := by decide +kernel
theorem dX3_sizeOf_20 : decode cX3_sizeOf 20 = .ok (.ireturn, 1) := by decide +kernel
theorem dX3_lengthAt_0 : decode cX3_lengthAt 0 = .ok (.iload_n 1, 1) := by decide +kernel
theorem dX3_lengthAt_1 : decode cX3_lengthAt 1 = .ok (.ifCond .lt 18, 3) := by decide +kernel
theorem dX3_lengthAt_4 : decode cX3_lengthAt 4 = .ok (.iload_n 1, 1) := by decide +kernel
theorem dX3_lengthAt_5 : decode cX3_lengthAt 5 = .ok (.bipush 13, 2) := by decide +kernel
theorem dX3_lengthAt_7 : decode cX3_lengthAt 7 = .ok (.if_icmp .ge 12, 3) := by decide +kernel
theorem dX3_lengthAt_10 : decode cX3_lengthAt 10 = .ok (.aload_n 0, 1) := by decide +kernel
theorem dX3_lengthAt_11 : decode cX3_lengthAt 11 = .ok (.getfield 9, 3) := by decide +kernel
theorem dX3_lengthAt_14 : decode cX3_lengthAt 14 = .ok (.iload_n 1, 1) := by decide +kernel
theorem dX3_lengthAt_15 : decode cX3_lengthAt 15 = .ok (.iaload, 1) := by decide +kernel
theorem dX3_lengthAt_16 : decode cX3_lengthAt 16 = .ok (.goto 4, 3) := by decide +kernel
theorem dX3_lengthAt_19 : decode cX3_lengthAt 19 = .ok (.iconst 0, 1) := by decide +kernel
theorem dX3_lengthAt_20 : decode cX3_lengthAt 20 = .ok (.ireturn, 1) := by decide +kernel
theorem dX3_usedAt_0 : decode cX3_usedAt 0 = .ok (.iload_n 1, 1) := by decide +kernel
theorem dX3_usedAt_1 : decode cX3_usedAt 1 = .ok (.ifCond .lt 18, 3) := by decide +kernel
theorem dX3_usedAt_4 : decode cX3_usedAt 4 = .ok (.iload_n 1, 1) := by decide +kernel
theorem dX3_usedAt_5 : decode cX3_usedAt 5 = .ok (.bipush 13, 2) := by decide +kernel
theorem dX3_usedAt_7 : decode cX3_usedAt 7 = .ok (.if_icmp .ge 12, 3) := by decide +kernel
theorem dX3_usedAt_10 : decode cX3_usedAt 10 = .ok (.aload_n 0, 1) := by decide +kernel
theorem dX3_usedAt_11 : decode cX3_usedAt 11 = .ok (.getfield 15, 3) := by decide +kernel
theorem dX3_usedAt_14 : decode cX3_usedAt 14 = .ok (.iload_n 1, 1) := by decide +kernel
theorem dX3_usedAt_15 : decode cX3_usedAt 15 = .ok (.iaload, 1) := by decide +kernel
theorem dX3_usedAt_16 : decode cX3_usedAt 16 = .ok (.goto 4, 3) := by decide +kernel
theorem dX3_usedAt_19 : decode cX3_usedAt 19 = .ok (.iconst 0, 1) := by decide +kernel
theorem dX3_usedAt_20 : decode cX3_usedAt 20 = .ok (.ireturn, 1) := by decide +kernel
theorem dX3_freeAt_0 : decode cX3_freeAt 0 = .ok (.aload_n 0, 1) := by decide +kernel
theorem dX3_freeAt_1 : decode cX3_freeAt 1 = .ok (.iload_n 1, 1) := by decide +kernel
theorem dX3_freeAt_2 : decode cX3_freeAt 2 = .ok (.invokevirtual 47, 3) := by decide +kernel
theorem dX3_freeAt_5 : decode cX3_freeAt 5 = .ok (.aload_n 0, 1) := by decide +kernel
theorem dX3_freeAt_6 : decode cX3_freeAt 6 = .ok (.iload_n 1, 1) := by decide +kernel
theorem dX3_freeAt_7 : decode cX3_freeAt 7 = .ok (.invokevirtual 51, 3) := by decide +kernel
theorem dX3_freeAt_10 : decode cX3_freeAt 10 = .ok (.isub, 1) := by decide +kernel
theorem dX3_freeAt_11 : decode cX3_freeAt 11 = .ok (.ireturn, 1) := by decide +kernel
theorem dX3_countAt_0 : decode cX3_countAt 0 = .ok (.iload_n 1, 1) := by decide +kernel
theorem dX3_countAt_1 : decode cX3_countAt 1 = .ok (.ifCond .lt 18, 3) := by decide +kernel
theorem dX3_countAt_4 : decode cX3_countAt 4 = .ok (.iload_n 1, 1) := by decide +kernel
theorem dX3_countAt_5 : decode cX3_countAt 5 = .ok (.bipush 13, 2) := by decide +kernel
theorem dX3_countAt_7 : decode cX3_countAt 7 = .ok (.if_icmp .ge 12, 3) := by decide +kernel
theorem dX3_countAt_10 : decode cX3_countAt 10 = .ok (.aload_n 0, 1) := by decide +kernel
theorem dX3_countAt_11 : decode cX3_countAt 11 = .ok (.getfield 18, 3) := by decide +kernel
theorem dX3_countAt_14 : decode cX3_countAt 14 = .ok (.iload_n 1, 1) := by decide +kernel
theorem dX3_countAt_15 : decode cX3_countAt 15 = .ok (.iaload, 1) := by decide +kernel
theorem dX3_countAt_16 : decode cX3_countAt 16 = .ok (.goto 4, 3) := by decide +kernel
theorem dX3_countAt_19 : decode cX3_countAt 19 = .ok (.iconst 0, 1) := by decide +kernel
theorem dX3_countAt_20 : decode cX3_countAt 20 = .ok (.ireturn, 1) := by decide +kernel
theorem dX3_locomotiveAt_0 : decode cX3_locomotiveAt 0 = .ok (.iload_n 1, 1) := by decide +kernel
theorem dX3_locomotiveAt_1 : decode cX3_locomotiveAt 1 = .ok (.ifCond .lt 29, 3) := by decide +kernel
theorem dX3_locomotiveAt_4 : decode cX3_locomotiveAt 4 = .ok (.iload_n 1, 1) := by decide +kernel
theorem dX3_locomotiveAt_5 : decode cX3_locomotiveAt 5 = .ok (.bipush 13, 2) := by decide +kernel
theorem dX3_locomotiveAt_7 : decode cX3_locomotiveAt 7 = .ok (.if_icmp .ge 23, 3) := by decide +kernel
theorem dX3_locomotiveAt_10 : decode cX3_locomotiveAt 10 = .ok (.iload_n 2, 1) := by decide +kernel
theorem dX3_locomotiveAt_11 : decode cX3_locomotiveAt 11 = .ok (.ifCond .lt 19, 3) := by decide +kernel
theorem dX3_locomotiveAt_14 : decode cX3_locomotiveAt 14 = .ok (.iload_n 2, 1) := by decide +kernel
theorem dX3_locomotiveAt_15 : decode cX3_locomotiveAt 15 = .ok (.aload_n 0, 1) := by decide +kernel
theorem dX3_locomotiveAt_16 : decode cX3_locomotiveAt 16 = .ok (.getfield 18, 3) := by decide +kernel
theorem dX3_locomotiveAt_19 : decode cX3_locomotiveAt 19 = .ok (.iload_n 1, 1) := by decide +kernel
theorem dX3_locomotiveAt_20 : decode cX3_locomotiveAt 20 = .ok (.iaload, 1) := by decide +kernel
theorem dX3_locomotiveAt_21 : decode cX3_locomotiveAt 21 = .ok (.if_icmp .ge 9, 3) := by decide +kernel
theorem dX3_locomotiveAt_24 : decode cX3_locomotiveAt 24 = .ok (.iload_n 2, 1) := by decide +kernel
theorem dX3_locomotiveAt_25 : decode cX3_locomotiveAt 25 = .ok (.bipush 8, 2) := by decide +kernel
theorem dX3_locomotiveAt_27 : decode cX3_locomotiveAt 27 = .ok (.if_icmp .lt 6, 3) := by decide +kernel
theorem dX3_locomotiveAt_30 : decode cX3_locomotiveAt 30 = .ok (.bipush (-11), 2) := by decide +kernel
theorem dX3_locomotiveAt_32 : decode cX3_locomotiveAt 32 = .ok (.ireturn, 1) := by decide +kernel
theorem dX3_locomotiveAt_33 : decode cX3_locomotiveAt 33 = .ok (.aload_n 0, 1) := by decide +kernel
theorem dX3_locomotiveAt_34 : decode cX3_locomotiveAt 34 = .ok (.getfield 21, 3) := by decide +kernel
theorem dX3_locomotiveAt_37 : decode cX3_locomotiveAt 37 = .ok (.iload_n 1, 1) := by decide +kernel
theorem dX3_locomotiveAt_38 : decode cX3_locomotiveAt 38 = .ok (.bipush 8, 2) := by decide +kernel
theorem dX3_locomotiveAt_40 : decode cX3_locomotiveAt 40 = .ok (.imul, 1) := by decide +kernel
theorem dX3_locomotiveAt_41 : decode cX3_locomotiveAt 41 = .ok (.iload_n 2, 1) := by decide +kernel
theorem dX3_locomotiveAt_42 : decode cX3_locomotiveAt 42 = .ok (.iadd, 1) := by decide +kernel
theorem dX3_locomotiveAt_43 : decode cX3_locomotiveAt 43 = .ok (.iaload, 1) := by decide +kernel
theorem dX3_locomotiveAt_44 : decode cX3_locomotiveAt 44 = .ok (.ireturn, 1) := by decide +kernel
theorem dX3_indexIn_0 : decode cX3_indexIn 0 = .ok (.aload_n 0, 1) := by decide +kernel
theorem dX3_indexIn_1 : decode cX3_indexIn 1 = .ok (.iload_n 1, 1) := by decide +kernel
theorem dX3_indexIn_2 : decode cX3_indexIn 2 = .ok (.invokevirtual 58, 3) := by decide +kernel
theorem dX3_indexIn_5 : decode cX3_indexIn 5 = .ok (.istore_n 3, 1) := by decide +kernel
theorem dX3_indexIn_6 : decode cX3_indexIn 6 = .ok (.iconst 0, 1) := by decide +kernel
theorem dX3_indexIn_7 : decode cX3_indexIn 7 = .ok (.istore 4, 2) := by decide +kernel
theorem dX3_indexIn_9 : decode cX3_indexIn 9 = .ok (.iload 4, 2) := by decide +kernel
theorem dX3_indexIn_11 : decode cX3_indexIn 11 = .ok (.iload_n 3, 1) := by decide +kernel
theorem dX3_indexIn_12 : decode cX3_indexIn 12 = .ok (.if_icmp .ge 23, 3) := by decide +kernel
theorem dX3_indexIn_15 : decode cX3_indexIn 15 = .ok (.aload_n 0, 1) := by decide +kernel
theorem dX3_indexIn_16 : decode cX3_indexIn 16 = .ok (.iload_n 1, 1) := by decide +kernel
theorem dX3_indexIn_17 : decode cX3_indexIn 17 = .ok (.iload 4, 2) := by decide +kernel
theorem dX3_indexIn_19 : decode cX3_indexIn 19 = .ok (.invokevirtual 61, 3) := by decide +kernel
theorem dX3_indexIn_22 : decode cX3_indexIn 22 = .ok (.iload_n 2, 1) := by decide +kernel
theorem dX3_indexIn_23 : decode cX3_indexIn 23 = .ok (.if_icmp .ne 6, 3) := by decide +kernel
theorem dX3_indexIn_26 : decode cX3_indexIn 26 = .ok (.iload 4, 2) := by decide +kernel
theorem dX3_indexIn_28 : decode cX3_indexIn 28 = .ok (.ireturn, 1) := by decide +kernel
theorem dX3_indexIn_29 : decode cX3_indexIn 29 = .ok (.iinc 4 1, 3) := by decide +kernel
theorem dX3_indexIn_32 : decode cX3_indexIn 32 = .ok (.goto (-23), 3) := by decide +kernel
theorem dX3_indexIn_35 : decode cX3_indexIn 35 = .ok (.bipush (-11), 2) := by decide +kernel
theorem dX3_indexIn_37 : decode cX3_indexIn 37 = .ok (.ireturn, 1) := by decide +kernel
theorem dX3_placeOf_0 : decode cX3_placeOf 0 = .ok (.iconst 0, 1) := by decide +kernel
theorem dX3_placeOf_1 : decode cX3_placeOf 1 = .ok (.istore_n 2, 1) := by decide +kernel
theorem dX3_placeOf_2 : decode cX3_placeOf 2 = .ok (.iload_n 2, 1) := by decide +kernel
theorem dX3_placeOf_3 : decode cX3_placeOf 3 = .ok (.bipush 13, 2) := by decide +kernel
theorem dX3_placeOf_5 : decode cX3_placeOf 5 = .ok (.if_icmp .ge 22, 3) := by decide +kernel
theorem dX3_placeOf_8 : decode cX3_placeOf 8 = .ok (.aload_n 0, 1) := by decide +kernel
theorem dX3_placeOf_9 : decode cX3_placeOf 9 = .ok (.iload_n 2, 1) := by decide +kernel
theorem dX3_placeOf_10 : decode cX3_placeOf 10 = .ok (.iload_n 1, 1) := by decide +kernel
theorem dX3_placeOf_11 : decode cX3_placeOf 11 = .ok (.invokevirtual 54, 3) := by decide +kernel
theorem dX3_placeOf_14 : decode cX3_placeOf 14 = .ok (.bipush (-11), 2) := by decide +kernel
theorem dX3_placeOf_16 : decode cX3_placeOf 16 = .ok (.if_icmp .eq 5, 3) := by decide +kernel
theorem dX3_placeOf_19 : decode cX3_placeOf 19 = .ok (.iload_n 2, 1) := by decide +kernel
theorem dX3_placeOf_20 : decode cX3_placeOf 20 = .ok (.ireturn, 1) := by decide +kernel
theorem dX3_placeOf_21 : decode cX3_placeOf 21 = .ok (.iinc 2 1, 3) := by decide +kernel
theorem dX3_placeOf_24 : decode cX3_placeOf 24 = .ok (.goto (-22), 3) := by decide +kernel
theorem dX3_placeOf_27 : decode cX3_placeOf 27 = .ok (.bipush (-11), 2) := by decide +kernel
theorem dX3_placeOf_29 : decode cX3_placeOf 29 = .ok (.ireturn, 1) := by decide +kernel
theorem dX3_trackCount_0 : decode cX3_trackCount 0 = .ok (.iconst 0, 1) := by decide +kernel
theorem dX3_trackCount_1 : decode cX3_trackCount 1 = .ok (.istore_n 1, 1) := by decide +kernel
theorem dX3_trackCount_2 : decode cX3_trackCount 2 = .ok (.iconst 0, 1) := by decide +kernel
theorem dX3_trackCount_3 : decode cX3_trackCount 3 = .ok (.istore_n 2, 1) := by decide +kernel
theorem dX3_trackCount_4 : decode cX3_trackCount 4 = .ok (.iload_n 2, 1) := by decide +kernel
theorem dX3_trackCount_5 : decode cX3_trackCount 5 = .ok (.bipush 12, 2) := by decide +kernel
theorem dX3_trackCount_7 : decode cX3_trackCount 7 = .ok (.if_icmp .ge 21, 3) := by decide +kernel
theorem dX3_trackCount_10 : decode cX3_trackCount 10 = .ok (.aload_n 0, 1) := by decide +kernel
theorem dX3_trackCount_11 : decode cX3_trackCount 11 = .ok (.getfield 9, 3) := by decide +kernel
theorem dX3_trackCount_14 : decode cX3_trackCount 14 = .ok (.iload_n 2, 1) := by decide +kernel
theorem dX3_trackCount_15 : decode cX3_trackCount 15 = .ok (.iaload, 1) := by decide +kernel
theorem dX3_trackCount_16 : decode cX3_trackCount 16 = .ok (.ifCond .le 6, 3) := by decide +kernel
theorem dX3_trackCount_19 : decode cX3_trackCount 19 = .ok (.iinc 1 1, 3) := by decide +kernel
theorem dX3_trackCount_22 : decode cX3_trackCount 22 = .ok (.iinc 2 1, 3) := by decide +kernel
theorem dX3_trackCount_25 : decode cX3_trackCount 25 = .ok (.goto (-21), 3) := by decide +kernel
theorem dX3_trackCount_28 : decode cX3_trackCount 28 = .ok (.iload_n 1, 1) := by decide +kernel
theorem dX3_trackCount_29 : decode cX3_trackCount 29 = .ok (.ireturn, 1) := by decide +kernel
theorem dX3_positionAt_0 : decode cX3_positionAt 0 = .ok (.iload_n 1, 1) := by decide +kernel
theorem dX3_positionAt_1 : decode cX3_positionAt 1 = .ok (.ifCond .ne 10, 3) := by decide +kernel
theorem dX3_positionAt_4 : decode cX3_positionAt 4 = .ok (.aload_n 0, 1) := by decide +kernel
theorem dX3_positionAt_5 : decode cX3_positionAt 5 = .ok (.getfield 40, 3) := by decide +kernel
theorem dX3_positionAt_8 : decode cX3_positionAt 8 = .ok (.goto 13, 3) := by decide +kernel
theorem dX3_positionAt_11 : decode cX3_positionAt 11 = .ok (.aload_n 0, 1) := by decide +kernel
theorem dX3_positionAt_12 : decode cX3_positionAt 12 = .ok (.getfield 40, 3) := by decide +kernel
theorem dX3_positionAt_15 : decode cX3_positionAt 15 = .ok (.bipush 6, 2) := by decide +kernel
theorem dX3_positionAt_17 : decode cX3_positionAt 17 = .ok (.iadd, 1) := by decide +kernel
theorem dX3_positionAt_18 : decode cX3_positionAt 18 = .ok (.bipush 12, 2) := by decide +kernel
theorem dX3_positionAt_20 : decode cX3_positionAt 20 = .ok (.irem, 1) := by decide +kernel
theorem dX3_positionAt_21 : decode cX3_positionAt 21 = .ok (.ireturn, 1) := by decide +kernel
theorem dX3_setLength_0 : decode cX3_setLength 0 = .ok (.iload_n 1, 1) := by decide +kernel
theorem dX3_setLength_1 : decode cX3_setLength 1 = .ok (.ifCond .lt 16, 3) := by decide +kernel
theorem dX3_setLength_4 : decode cX3_setLength 4 = .ok (.iload_n 1, 1) := by decide +kernel
theorem dX3_setLength_5 : decode cX3_setLength 5 = .ok (.bipush 13, 2) := by decide +kernel
theorem dX3_setLength_7 : decode cX3_setLength 7 = .ok (.if_icmp .ge 10, 3) := by decide +kernel
theorem dX3_setLength_10 : decode cX3_setLength 10 = .ok (.aload_n 0, 1) := by decide +kernel
theorem dX3_setLength_11 : decode cX3_setLength 11 = .ok (.getfield 9, 3) := by decide +kernel
theorem dX3_setLength_14 : decode cX3_setLength 14 = .ok (.iload_n 1, 1) := by decide +kernel
theorem dX3_setLength_15 : decode cX3_setLength 15 = .ok (.iload_n 2, 1) := by decide +kernel
theorem dX3_setLength_16 : decode cX3_setLength 16 = .ok (.iastore, 1) := by decide +kernel
theorem dX3_setLength_17 : decode cX3_setLength 17 = .ok (.return_, 1) := by decide +kernel
theorem dX3_markDead_0 : decode cX3_markDead 0 = .ok (.aload_n 0, 1) := by decide +kernel
theorem dX3_markDead_1 : decode cX3_markDead 1 = .ok (.iload_n 1, 1) := by decide +kernel
theorem dX3_markDead_2 : decode cX3_markDead 2 = .ok (.invokevirtual 43, 3) := by decide +kernel
theorem dX3_markDead_5 : decode cX3_markDead 5 = .ok (.ifCond .eq 32, 3) := by decide +kernel
theorem dX3_markDead_8 : decode cX3_markDead 8 = .ok (.iconst 1, 1) := by decide +kernel
theorem dX3_markDead_9 : decode cX3_markDead 9 = .ok (.iload_n 1, 1) := by decide +kernel
theorem dX3_markDead_10 : decode cX3_markDead 10 = .ok (.ishl, 1) := by decide +kernel
theorem dX3_markDead_11 : decode cX3_markDead 11 = .ok (.istore_n 3, 1) := by decide +kernel
theorem dX3_markDead_12 : decode cX3_markDead 12 = .ok (.aload_n 0, 1) := by decide +kernel
theorem dX3_markDead_13 : decode cX3_markDead 13 = .ok (.iload_n 2, 1) := by decide +kernel
theorem dX3_markDead_14 : decode cX3_markDead 14 = .ok (.ifCond .eq 12, 3) := by decide +kernel
theorem dX3_markDead_17 : decode cX3_markDead 17 = .ok (.aload_n 0, 1) := by decide +kernel
theorem dX3_markDead_18 : decode cX3_markDead 18 = .ok (.getfield 37, 3) := by decide +kernel
theorem dX3_markDead_21 : decode cX3_markDead 21 = .ok (.iload_n 3, 1) := by decide +kernel
theorem dX3_markDead_22 : decode cX3_markDead 22 = .ok (.ior, 1) := by decide +kernel
theorem dX3_markDead_23 : decode cX3_markDead 23 = .ok (.goto 11, 3) := by decide +kernel
theorem dX3_markDead_26 : decode cX3_markDead 26 = .ok (.aload_n 0, 1) := by decide +kernel
theorem dX3_markDead_27 : decode cX3_markDead 27 = .ok (.getfield 37, 3) := by decide +kernel
theorem dX3_markDead_30 : decode cX3_markDead 30 = .ok (.iload_n 3, 1) := by decide +kernel
theorem dX3_markDead_31 : decode cX3_markDead 31 = .ok (.iconst (-1), 1) := by decide +kernel
theorem dX3_markDead_32 : decode cX3_markDead 32 = .ok (.ixor, 1) := by decide +kernel
theorem dX3_markDead_33 : decode cX3_markDead 33 = .ok (.iand, 1) := by decide +kernel
theorem dX3_markDead_34 : decode cX3_markDead 34 = .ok (.putfield 37, 3) := by decide +kernel
theorem dX3_markDead_37 : decode cX3_markDead 37 = .ok (.return_, 1) := by decide +kernel
theorem dX3_putIn_0 : decode cX3_putIn 0 = .ok (.aload_n 0, 1) := by decide +kernel
theorem dX3_putIn_1 : decode cX3_putIn 1 = .ok (.iload_n 1, 1) := by decide +kernel
theorem dX3_putIn_2 : decode cX3_putIn 2 = .ok (.invokevirtual 58, 3) := by decide +kernel
theorem dX3_putIn_5 : decode cX3_putIn 5 = .ok (.istore 4, 2) := by decide +kernel
theorem dX3_putIn_7 : decode cX3_putIn 7 = .ok (.iload_n 1, 1) := by decide +kernel
theorem dX3_putIn_8 : decode cX3_putIn 8 = .ok (.ifCond .lt 26, 3) := by decide +kernel
theorem dX3_putIn_11 : decode cX3_putIn 11 = .ok (.iload_n 1, 1) := by decide +kernel
theorem dX3_putIn_12 : decode cX3_putIn 12 = .ok (.bipush 13, 2) := by decide +kernel
theorem dX3_putIn_14 : decode cX3_putIn 14 = .ok (.if_icmp .ge 20, 3) := by decide +kernel
theorem dX3_putIn_17 : decode cX3_putIn 17 = .ok (.iload_n 2, 1) := by decide +kernel
theorem dX3_putIn_18 : decode cX3_putIn 18 = .ok (.ifCond .lt 16, 3) := by decide +kernel
theorem dX3_putIn_21 : decode cX3_putIn 21 = .ok (.iload_n 2, 1) := by decide +kernel
theorem dX3_putIn_22 : decode cX3_putIn 22 = .ok (.iload 4, 2) := by decide +kernel
theorem dX3_putIn_24 : decode cX3_putIn 24 = .ok (.if_icmp .gt 10, 3) := by decide +kernel
theorem dX3_putIn_27 : decode cX3_putIn 27 = .ok (.iload 4, 2) := by decide +kernel
theorem dX3_putIn_29 : decode cX3_putIn 29 = .ok (.bipush 8, 2) := by decide +kernel
theorem dX3_putIn_31 : decode cX3_putIn 31 = .ok (.if_icmp .lt 4, 3) := by decide +kernel
theorem dX3_putIn_34 : decode cX3_putIn 34 = .ok (.return_, 1) := by decide +kernel
theorem dX3_putIn_35 : decode cX3_putIn 35 = .ok (.iload_n 1, 1) := by decide +kernel
theorem dX3_putIn_36 : decode cX3_putIn 36 = .ok (.bipush 8, 2) := by decide +kernel
theorem dX3_putIn_38 : decode cX3_putIn 38 = .ok (.imul, 1) := by decide +kernel
theorem dX3_putIn_39 : decode cX3_putIn 39 = .ok (.istore 5, 2) := by decide +kernel
theorem dX3_putIn_41 : decode cX3_putIn 41 = .ok (.iload 4, 2) := by decide +kernel
theorem dX3_putIn_43 : decode cX3_putIn 43 = .ok (.istore 6, 2) := by decide +kernel
theorem dX3_putIn_45 : decode cX3_putIn 45 = .ok (.iload 6, 2) := by decide +kernel
theorem dX3_putIn_47 : decode cX3_putIn 47 = .ok (.iload_n 2, 1) := by decide +kernel
theorem dX3_putIn_48 : decode cX3_putIn 48 = .ok (.if_icmp .le 31, 3) := by decide +kernel
theorem dX3_putIn_51 : decode cX3_putIn 51 = .ok (.aload_n 0, 1) := by decide +kernel
theorem dX3_putIn_52 : decode cX3_putIn 52 = .ok (.getfield 21, 3) := by decide +kernel
theorem dX3_putIn_55 : decode cX3_putIn 55 = .ok (.iload 5, 2) := by decide +kernel
theorem dX3_putIn_57 : decode cX3_putIn 57 = .ok (.iload 6, 2) := by decide +kernel
theorem dX3_putIn_59 : decode cX3_putIn 59 = .ok (.iadd, 1) := by decide +kernel
theorem dX3_putIn_60 : decode cX3_putIn 60 = .ok (.aload_n 0, 1) := by decide +kernel
theorem dX3_putIn_61 : decode cX3_putIn 61 = .ok (.getfield 21, 3) := by decide +kernel
theorem dX3_putIn_64 : decode cX3_putIn 64 = .ok (.iload 5, 2) := by decide +kernel
theorem dX3_putIn_66 : decode cX3_putIn 66 = .ok (.iload 6, 2) := by decide +kernel
theorem dX3_putIn_68 : decode cX3_putIn 68 = .ok (.iadd, 1) := by decide +kernel
theorem dX3_putIn_69 : decode cX3_putIn 69 = .ok (.iconst 1, 1) := by decide +kernel
theorem dX3_putIn_70 : decode cX3_putIn 70 = .ok (.isub, 1) := by decide +kernel
theorem dX3_putIn_71 : decode cX3_putIn 71 = .ok (.iaload, 1) := by decide +kernel
theorem dX3_putIn_72 : decode cX3_putIn 72 = .ok (.iastore, 1) := by decide +kernel
theorem dX3_putIn_73 : decode cX3_putIn 73 = .ok (.iinc 6 (-1), 3) := by decide +kernel
theorem dX3_putIn_76 : decode cX3_putIn 76 = .ok (.goto (-31), 3) := by decide +kernel
theorem dX3_putIn_79 : decode cX3_putIn 79 = .ok (.aload_n 0, 1) := by decide +kernel
theorem dX3_putIn_80 : decode cX3_putIn 80 = .ok (.getfield 21, 3) := by decide +kernel
theorem dX3_putIn_83 : decode cX3_putIn 83 = .ok (.iload 5, 2) := by decide +kernel
theorem dX3_putIn_85 : decode cX3_putIn 85 = .ok (.iload_n 2, 1) := by decide +kernel
theorem dX3_putIn_86 : decode cX3_putIn 86 = .ok (.iadd, 1) := by decide +kernel
theorem dX3_putIn_87 : decode cX3_putIn 87 = .ok (.iload_n 3, 1) := by decide +kernel
theorem dX3_putIn_88 : decode cX3_putIn 88 = .ok (.iastore, 1) := by decide +kernel
theorem dX3_putIn_89 : decode cX3_putIn 89 = .ok (.aload_n 0, 1) := by decide +kernel
theorem dX3_putIn_90 : decode cX3_putIn 90 = .ok (.getfield 18, 3) := by decide +kernel
theorem dX3_putIn_93 : decode cX3_putIn 93 = .ok (.iload_n 1, 1) := by decide +kernel
theorem dX3_putIn_94 : decode cX3_putIn 94 = .ok (.dup2, 1) := by decide +kernel
theorem dX3_putIn_95 : decode cX3_putIn 95 = .ok (.iaload, 1) := by decide +kernel
theorem dX3_putIn_96 : decode cX3_putIn 96 = .ok (.iconst 1, 1) := by decide +kernel
theorem dX3_putIn_97 : decode cX3_putIn 97 = .ok (.iadd, 1) := by decide +kernel
theorem dX3_putIn_98 : decode cX3_putIn 98 = .ok (.iastore, 1) := by decide +kernel
theorem dX3_putIn_99 : decode cX3_putIn 99 = .ok (.aload_n 0, 1) := by decide +kernel
theorem dX3_putIn_100 : decode cX3_putIn 100 = .ok (.getfield 15, 3) := by decide +kernel
theorem dX3_putIn_103 : decode cX3_putIn 103 = .ok (.iload_n 1, 1) := by decide +kernel
theorem dX3_putIn_104 : decode cX3_putIn 104 = .ok (.dup2, 1) := by decide +kernel
theorem dX3_putIn_105 : decode cX3_putIn 105 = .ok (.iaload, 1) := by decide +kernel
theorem dX3_putIn_106 : decode cX3_putIn 106 = .ok (.aload_n 0, 1) := by decide +kernel
theorem dX3_putIn_107 : decode cX3_putIn 107 = .ok (.iload_n 3, 1) := by decide +kernel
theorem dX3_putIn_108 : decode cX3_putIn 108 = .ok (.invokevirtual 78, 3) := by decide +kernel
theorem dX3_putIn_111 : decode cX3_putIn 111 = .ok (.iadd, 1) := by decide +kernel
theorem dX3_putIn_112 : decode cX3_putIn 112 = .ok (.iastore, 1) := by decide +kernel
theorem dX3_putIn_113 : decode cX3_putIn 113 = .ok (.return_, 1) := by decide +kernel
theorem dX3_addFirst_0 : decode cX3_addFirst 0 = .ok (.aload_n 0, 1) := by decide +kernel
theorem dX3_addFirst_1 : decode cX3_addFirst 1 = .ok (.getfield 33, 3) := by decide +kernel
theorem dX3_addFirst_4 : decode cX3_addFirst 4 = .ok (.istore_n 3, 1) := by decide +kernel
theorem dX3_addFirst_5 : decode cX3_addFirst 5 = .ok (.iload_n 3, 1) := by decide +kernel
theorem dX3_addFirst_6 : decode cX3_addFirst 6 = .ok (.ifCond .lt 9, 3) := by decide +kernel
theorem dX3_addFirst_9 : decode cX3_addFirst 9 = .ok (.iload_n 3, 1) := by decide +kernel
theorem dX3_addFirst_10 : decode cX3_addFirst 10 = .ok (.bipush 8, 2) := by decide +kernel
theorem dX3_addFirst_12 : decode cX3_addFirst 12 = .ok (.if_icmp .lt 6, 3) := by decide +kernel
theorem dX3_addFirst_15 : decode cX3_addFirst 15 = .ok (.bipush (-9), 2) := by decide +kernel
theorem dX3_addFirst_17 : decode cX3_addFirst 17 = .ok (.ireturn, 1) := by decide +kernel
theorem dX3_addFirst_18 : decode cX3_addFirst 18 = .ok (.aload_n 0, 1) := by decide +kernel
theorem dX3_addFirst_19 : decode cX3_addFirst 19 = .ok (.getfield 24, 3) := by decide +kernel
theorem dX3_addFirst_22 : decode cX3_addFirst 22 = .ok (.iload_n 3, 1) := by decide +kernel
theorem dX3_addFirst_23 : decode cX3_addFirst 23 = .ok (.iload_n 1, 1) := by decide +kernel
theorem dX3_addFirst_24 : decode cX3_addFirst 24 = .ok (.iastore, 1) := by decide +kernel
theorem dX3_addFirst_25 : decode cX3_addFirst 25 = .ok (.aload_n 0, 1) := by decide +kernel
theorem dX3_addFirst_26 : decode cX3_addFirst 26 = .ok (.dup, 1) := by decide +kernel
theorem dX3_addFirst_27 : decode cX3_addFirst 27 = .ok (.getfield 33, 3) := by decide +kernel
theorem dX3_addFirst_30 : decode cX3_addFirst 30 = .ok (.iconst 1, 1) := by decide +kernel
theorem dX3_addFirst_31 : decode cX3_addFirst 31 = .ok (.iadd, 1) := by decide +kernel
theorem dX3_addFirst_32 : decode cX3_addFirst 32 = .ok (.putfield 33, 3) := by decide +kernel
theorem dX3_addFirst_35 : decode cX3_addFirst 35 = .ok (.aload_n 0, 1) := by decide +kernel
theorem dX3_addFirst_36 : decode cX3_addFirst 36 = .ok (.iload_n 3, 1) := by decide +kernel
theorem dX3_addFirst_37 : decode cX3_addFirst 37 = .ok (.iconst 0, 1) := by decide +kernel
theorem dX3_addFirst_38 : decode cX3_addFirst 38 = .ok (.invokevirtual 64, 3) := by decide +kernel
theorem dX3_addFirst_41 : decode cX3_addFirst 41 = .ok (.aload_n 0, 1) := by decide +kernel
theorem dX3_addFirst_42 : decode cX3_addFirst 42 = .ok (.iload_n 2, 1) := by decide +kernel
theorem dX3_addFirst_43 : decode cX3_addFirst 43 = .ok (.iconst 0, 1) := by decide +kernel
theorem dX3_addFirst_44 : decode cX3_addFirst 44 = .ok (.iload_n 3, 1) := by decide +kernel
theorem dX3_addFirst_45 : decode cX3_addFirst 45 = .ok (.invokevirtual 68, 3) := by decide +kernel
theorem dX3_addFirst_48 : decode cX3_addFirst 48 = .ok (.iload_n 3, 1) := by decide +kernel
theorem dX3_addFirst_49 : decode cX3_addFirst 49 = .ok (.ireturn, 1) := by decide +kernel
theorem dX3_takeOut_0 : decode cX3_takeOut 0 = .ok (.aload_n 0, 1) := by decide +kernel
theorem dX3_takeOut_1 : decode cX3_takeOut 1 = .ok (.iload_n 1, 1) := by decide +kernel
theorem dX3_takeOut_2 : decode cX3_takeOut 2 = .ok (.iload_n 2, 1) := by decide +kernel
theorem dX3_takeOut_3 : decode cX3_takeOut 3 = .ok (.invokevirtual 61, 3) := by decide +kernel
theorem dX3_takeOut_6 : decode cX3_takeOut 6 = .ok (.istore_n 3, 1) := by decide +kernel
theorem dX3_takeOut_7 : decode cX3_takeOut 7 = .ok (.iload_n 3, 1) := by decide +kernel
theorem dX3_takeOut_8 : decode cX3_takeOut 8 = .ok (.bipush (-11), 2) := by decide +kernel
theorem dX3_takeOut_10 : decode cX3_takeOut 10 = .ok (.if_icmp .ne 6, 3) := by decide +kernel
theorem dX3_takeOut_13 : decode cX3_takeOut 13 = .ok (.bipush (-11), 2) := by decide +kernel
theorem dX3_takeOut_15 : decode cX3_takeOut 15 = .ok (.ireturn, 1) := by decide +kernel
theorem dX3_takeOut_16 : decode cX3_takeOut 16 = .ok (.iload_n 1, 1) := by decide +kernel
theorem dX3_takeOut_17 : decode cX3_takeOut 17 = .ok (.bipush 8, 2) := by decide +kernel
theorem dX3_takeOut_19 : decode cX3_takeOut 19 = .ok (.imul, 1) := by decide +kernel
theorem dX3_takeOut_20 : decode cX3_takeOut 20 = .ok (.istore 4, 2) := by decide +kernel
theorem dX3_takeOut_22 : decode cX3_takeOut 22 = .ok (.iload_n 2, 1) := by decide +kernel
theorem dX3_takeOut_23 : decode cX3_takeOut 23 = .ok (.iconst 1, 1) := by decide +kernel
theorem dX3_takeOut_24 : decode cX3_takeOut 24 = .ok (.iadd, 1) := by decide +kernel
theorem dX3_takeOut_25 : decode cX3_takeOut 25 = .ok (.istore 5, 2) := by decide +kernel
theorem dX3_takeOut_27 : decode cX3_takeOut 27 = .ok (.iload 5, 2) := by decide +kernel
theorem dX3_takeOut_29 : decode cX3_takeOut 29 = .ok (.aload_n 0, 1) := by decide +kernel
theorem dX3_takeOut_30 : decode cX3_takeOut 30 = .ok (.getfield 18, 3) := by decide +kernel
theorem dX3_takeOut_33 : decode cX3_takeOut 33 = .ok (.iload_n 1, 1) := by decide +kernel
theorem dX3_takeOut_34 : decode cX3_takeOut 34 = .ok (.iaload, 1) := by decide +kernel
theorem dX3_takeOut_35 : decode cX3_takeOut 35 = .ok (.if_icmp .ge 38, 3) := by decide +kernel
theorem dX3_takeOut_38 : decode cX3_takeOut 38 = .ok (.iload 5, 2) := by decide +kernel
theorem dX3_takeOut_40 : decode cX3_takeOut 40 = .ok (.bipush 8, 2) := by decide +kernel
theorem dX3_takeOut_42 : decode cX3_takeOut 42 = .ok (.if_icmp .ge 31, 3) := by decide +kernel
theorem dX3_takeOut_45 : decode cX3_takeOut 45 = .ok (.aload_n 0, 1) := by decide +kernel
theorem dX3_takeOut_46 : decode cX3_takeOut 46 = .ok (.getfield 21, 3) := by decide +kernel
theorem dX3_takeOut_49 : decode cX3_takeOut 49 = .ok (.iload 4, 2) := by decide +kernel
theorem dX3_takeOut_51 : decode cX3_takeOut 51 = .ok (.iload 5, 2) := by decide +kernel
theorem dX3_takeOut_53 : decode cX3_takeOut 53 = .ok (.iadd, 1) := by decide +kernel
theorem dX3_takeOut_54 : decode cX3_takeOut 54 = .ok (.iconst 1, 1) := by decide +kernel
theorem dX3_takeOut_55 : decode cX3_takeOut 55 = .ok (.isub, 1) := by decide +kernel
theorem dX3_takeOut_56 : decode cX3_takeOut 56 = .ok (.aload_n 0, 1) := by decide +kernel
theorem dX3_takeOut_57 : decode cX3_takeOut 57 = .ok (.getfield 21, 3) := by decide +kernel
theorem dX3_takeOut_60 : decode cX3_takeOut 60 = .ok (.iload 4, 2) := by decide +kernel
theorem dX3_takeOut_62 : decode cX3_takeOut 62 = .ok (.iload 5, 2) := by decide +kernel
theorem dX3_takeOut_64 : decode cX3_takeOut 64 = .ok (.iadd, 1) := by decide +kernel
theorem dX3_takeOut_65 : decode cX3_takeOut 65 = .ok (.iaload, 1) := by decide +kernel
theorem dX3_takeOut_66 : decode cX3_takeOut 66 = .ok (.iastore, 1) := by decide +kernel
theorem dX3_takeOut_67 : decode cX3_takeOut 67 = .ok (.iinc 5 1, 3) := by decide +kernel
theorem dX3_takeOut_70 : decode cX3_takeOut 70 = .ok (.goto (-43), 3) := by decide +kernel
theorem dX3_takeOut_73 : decode cX3_takeOut 73 = .ok (.aload_n 0, 1) := by decide +kernel
theorem dX3_takeOut_74 : decode cX3_takeOut 74 = .ok (.getfield 18, 3) := by decide +kernel
theorem dX3_takeOut_77 : decode cX3_takeOut 77 = .ok (.iload_n 1, 1) := by decide +kernel
theorem dX3_takeOut_78 : decode cX3_takeOut 78 = .ok (.dup2, 1) := by decide +kernel
theorem dX3_takeOut_79 : decode cX3_takeOut 79 = .ok (.iaload, 1) := by decide +kernel
theorem dX3_takeOut_80 : decode cX3_takeOut 80 = .ok (.iconst 1, 1) := by decide +kernel
theorem dX3_takeOut_81 : decode cX3_takeOut 81 = .ok (.isub, 1) := by decide +kernel
theorem dX3_takeOut_82 : decode cX3_takeOut 82 = .ok (.iastore, 1) := by decide +kernel
theorem dX3_takeOut_83 : decode cX3_takeOut 83 = .ok (.aload_n 0, 1) := by decide +kernel
theorem dX3_takeOut_84 : decode cX3_takeOut 84 = .ok (.getfield 15, 3) := by decide +kernel
theorem dX3_takeOut_87 : decode cX3_takeOut 87 = .ok (.iload_n 1, 1) := by decide +kernel
theorem dX3_takeOut_88 : decode cX3_takeOut 88 = .ok (.dup2, 1) := by decide +kernel
theorem dX3_takeOut_89 : decode cX3_takeOut 89 = .ok (.iaload, 1) := by decide +kernel
theorem dX3_takeOut_90 : decode cX3_takeOut 90 = .ok (.aload_n 0, 1) := by decide +kernel
theorem dX3_takeOut_91 : decode cX3_takeOut 91 = .ok (.iload_n 3, 1) := by decide +kernel
theorem dX3_takeOut_92 : decode cX3_takeOut 92 = .ok (.invokevirtual 78, 3) := by decide +kernel
theorem dX3_takeOut_95 : decode cX3_takeOut 95 = .ok (.isub, 1) := by decide +kernel
theorem dX3_takeOut_96 : decode cX3_takeOut 96 = .ok (.iastore, 1) := by decide +kernel
theorem dX3_takeOut_97 : decode cX3_takeOut 97 = .ok (.iload_n 3, 1) := by decide +kernel
theorem dX3_takeOut_98 : decode cX3_takeOut 98 = .ok (.ireturn, 1) := by decide +kernel
theorem dX3_removeNewest_0 : decode cX3_removeNewest 0 = .ok (.aload_n 0, 1) := by decide +kernel
theorem dX3_removeNewest_1 : decode cX3_removeNewest 1 = .ok (.getfield 33, 3) := by decide +kernel
theorem dX3_removeNewest_4 : decode cX3_removeNewest 4 = .ok (.iconst 1, 1) := by decide +kernel
theorem dX3_removeNewest_5 : decode cX3_removeNewest 5 = .ok (.isub, 1) := by decide +kernel
theorem dX3_removeNewest_6 : decode cX3_removeNewest 6 = .ok (.istore_n 1, 1) := by decide +kernel
theorem dX3_removeNewest_7 : decode cX3_removeNewest 7 = .ok (.aload_n 0, 1) := by decide +kernel
theorem dX3_removeNewest_8 : decode cX3_removeNewest 8 = .ok (.iload_n 1, 1) := by decide +kernel
theorem dX3_removeNewest_9 : decode cX3_removeNewest 9 = .ok (.invokevirtual 72, 3) := by decide +kernel
theorem dX3_removeNewest_12 : decode cX3_removeNewest 12 = .ok (.istore_n 2, 1) := by decide +kernel
theorem dX3_removeNewest_13 : decode cX3_removeNewest 13 = .ok (.aload_n 0, 1) := by decide +kernel
theorem dX3_removeNewest_14 : decode cX3_removeNewest 14 = .ok (.iload_n 2, 1) := by decide +kernel
theorem dX3_removeNewest_15 : decode cX3_removeNewest 15 = .ok (.aload_n 0, 1) := by decide +kernel
theorem dX3_removeNewest_16 : decode cX3_removeNewest 16 = .ok (.iload_n 2, 1) := by decide +kernel
theorem dX3_removeNewest_17 : decode cX3_removeNewest 17 = .ok (.iload_n 1, 1) := by decide +kernel
theorem dX3_removeNewest_18 : decode cX3_removeNewest 18 = .ok (.invokevirtual 54, 3) := by decide +kernel
theorem dX3_removeNewest_21 : decode cX3_removeNewest 21 = .ok (.invokevirtual 75, 3) := by decide +kernel
theorem dX3_removeNewest_24 : decode cX3_removeNewest 24 = .ok (.pop, 1) := by decide +kernel
theorem dX3_removeNewest_25 : decode cX3_removeNewest 25 = .ok (.aload_n 0, 1) := by decide +kernel
theorem dX3_removeNewest_26 : decode cX3_removeNewest 26 = .ok (.iload_n 1, 1) := by decide +kernel
theorem dX3_removeNewest_27 : decode cX3_removeNewest 27 = .ok (.putfield 33, 3) := by decide +kernel
theorem dX3_removeNewest_30 : decode cX3_removeNewest 30 = .ok (.iload_n 1, 1) := by decide +kernel
theorem dX3_removeNewest_31 : decode cX3_removeNewest 31 = .ok (.ireturn, 1) := by decide +kernel
theorem dX3_emptyRows_0 : decode cX3_emptyRows 0 = .ok (.aload_n 0, 1) := by decide +kernel
theorem dX3_emptyRows_1 : decode cX3_emptyRows 1 = .ok (.getfield 18, 3) := by decide +kernel
theorem dX3_emptyRows_4 : decode cX3_emptyRows 4 = .ok (.iconst 0, 1) := by decide +kernel
theorem dX3_emptyRows_5 : decode cX3_emptyRows 5 = .ok (.invokestatic 81, 3) := by decide +kernel
theorem dX3_emptyRows_8 : decode cX3_emptyRows 8 = .ok (.aload_n 0, 1) := by decide +kernel
theorem dX3_emptyRows_9 : decode cX3_emptyRows 9 = .ok (.getfield 15, 3) := by decide +kernel
theorem dX3_emptyRows_12 : decode cX3_emptyRows 12 = .ok (.iconst 0, 1) := by decide +kernel
theorem dX3_emptyRows_13 : decode cX3_emptyRows 13 = .ok (.invokestatic 81, 3) := by decide +kernel
theorem dX3_emptyRows_16 : decode cX3_emptyRows 16 = .ok (.return_, 1) := by decide +kernel
theorem dX3_allFit_0 : decode cX3_allFit 0 = .ok (.iconst 0, 1) := by decide +kernel
theorem dX3_allFit_1 : decode cX3_allFit 1 = .ok (.istore_n 1, 1) := by decide +kernel
theorem dX3_allFit_2 : decode cX3_allFit 2 = .ok (.iload_n 1, 1) := by decide +kernel
theorem dX3_allFit_3 : decode cX3_allFit 3 = .ok (.bipush 13, 2) := by decide +kernel
theorem dX3_allFit_5 : decode cX3_allFit 5 = .ok (.if_icmp .ge 26, 3) := by decide +kernel
theorem dX3_allFit_8 : decode cX3_allFit 8 = .ok (.aload_n 0, 1) := by decide +kernel
theorem dX3_allFit_9 : decode cX3_allFit 9 = .ok (.getfield 15, 3) := by decide +kernel
theorem dX3_allFit_12 : decode cX3_allFit 12 = .ok (.iload_n 1, 1) := by decide +kernel
theorem dX3_allFit_13 : decode cX3_allFit 13 = .ok (.iaload, 1) := by decide +kernel
theorem dX3_allFit_14 : decode cX3_allFit 14 = .ok (.aload_n 0, 1) := by decide +kernel
theorem dX3_allFit_15 : decode cX3_allFit 15 = .ok (.getfield 9, 3) := by decide +kernel
theorem dX3_allFit_18 : decode cX3_allFit 18 = .ok (.iload_n 1, 1) := by decide +kernel
theorem dX3_allFit_19 : decode cX3_allFit 19 = .ok (.iaload, 1) := by decide +kernel
theorem dX3_allFit_20 : decode cX3_allFit 20 = .ok (.if_icmp .le 5, 3) := by decide +kernel
theorem dX3_allFit_23 : decode cX3_allFit 23 = .ok (.iconst 0, 1) := by decide +kernel
theorem dX3_allFit_24 : decode cX3_allFit 24 = .ok (.ireturn, 1) := by decide +kernel
theorem dX3_allFit_25 : decode cX3_allFit 25 = .ok (.iinc 1 1, 3) := by decide +kernel
theorem dX3_allFit_28 : decode cX3_allFit 28 = .ok (.goto (-26), 3) := by decide +kernel
theorem dX3_allFit_31 : decode cX3_allFit 31 = .ok (.iconst 1, 1) := by decide +kernel
theorem dX3_allFit_32 : decode cX3_allFit 32 = .ok (.ireturn, 1) := by decide +kernel
theorem dX3_sourceOf_0 : decode cX3_sourceOf 0 = .ok (.iload_n 1, 1) := by decide +kernel
theorem dX3_sourceOf_1 : decode cX3_sourceOf 1 = .ok (.bipush 30, 2) := by decide +kernel
theorem dX3_sourceOf_3 : decode cX3_sourceOf 3 = .ok (.if_icmp .ge 14, 3) := by decide +kernel
theorem dX3_sourceOf_6 : decode cX3_sourceOf 6 = .ok (.aload_n 0, 1) := by decide +kernel
theorem dX3_sourceOf_7 : decode cX3_sourceOf 7 = .ok (.iload_n 1, 1) := by decide +kernel
theorem dX3_sourceOf_8 : decode cX3_sourceOf 8 = .ok (.invokestatic 87, 3) := by decide +kernel
theorem dX3_sourceOf_11 : decode cX3_sourceOf 11 = .ok (.invokevirtual 90, 3) := by decide +kernel
theorem dX3_sourceOf_14 : decode cX3_sourceOf 14 = .ok (.goto 5, 3) := by decide +kernel
theorem dX3_sourceOf_17 : decode cX3_sourceOf 17 = .ok (.bipush 12, 2) := by decide +kernel
theorem dX3_sourceOf_19 : decode cX3_sourceOf 19 = .ok (.ireturn, 1) := by decide +kernel
theorem dX3_targetOf_0 : decode cX3_targetOf 0 = .ok (.iload_n 1, 1) := by decide +kernel
theorem dX3_targetOf_1 : decode cX3_targetOf 1 = .ok (.bipush 30, 2) := by decide +kernel
theorem dX3_targetOf_3 : decode cX3_targetOf 3 = .ok (.if_icmp .ge 8, 3) := by decide +kernel
theorem dX3_targetOf_6 : decode cX3_targetOf 6 = .ok (.bipush 12, 2) := by decide +kernel
theorem dX3_targetOf_8 : decode cX3_targetOf 8 = .ok (.goto 11, 3) := by decide +kernel
theorem dX3_targetOf_11 : decode cX3_targetOf 11 = .ok (.aload_n 0, 1) := by decide +kernel
theorem dX3_targetOf_12 : decode cX3_targetOf 12 = .ok (.iload_n 1, 1) := by decide +kernel
theorem dX3_targetOf_13 : decode cX3_targetOf 13 = .ok (.invokestatic 87, 3) := by decide +kernel
theorem dX3_targetOf_16 : decode cX3_targetOf 16 = .ok (.invokevirtual 90, 3) := by decide +kernel
theorem dX3_targetOf_19 : decode cX3_targetOf 19 = .ok (.ireturn, 1) := by decide +kernel
theorem dX3_movementError_0 : decode cX3_movementError 0 = .ok (.aload_n 0, 1) := by decide +kernel
theorem dX3_movementError_1 : decode cX3_movementError 1 = .ok (.aload_n 0, 1) := by decide +kernel
theorem dX3_movementError_2 : decode cX3_movementError 2 = .ok (.iload_n 1, 1) := by decide +kernel
theorem dX3_movementError_3 : decode cX3_movementError 3 = .ok (.invokestatic 87, 3) := by decide +kernel
theorem dX3_movementError_6 : decode cX3_movementError 6 = .ok (.invokevirtual 90, 3) := by decide +kernel
theorem dX3_movementError_9 : decode cX3_movementError 9 = .ok (.invokevirtual 47, 3) := by decide +kernel
theorem dX3_movementError_12 : decode cX3_movementError 12 = .ok (.ifCond .ne 6, 3) := by decide +kernel
theorem dX3_movementError_15 : decode cX3_movementError 15 = .ok (.bipush (-2), 2) := by decide +kernel
theorem dX3_movementError_17 : decode cX3_movementError 17 = .ok (.ireturn, 1) := by decide +kernel
theorem dX3_movementError_18 : decode cX3_movementError 18 = .ok (.aload_n 0, 1) := by decide +kernel
theorem dX3_movementError_19 : decode cX3_movementError 19 = .ok (.iload_n 1, 1) := by decide +kernel
theorem dX3_movementError_20 : decode cX3_movementError 20 = .ok (.invokevirtual 93, 3) := by decide +kernel
theorem dX3_movementError_23 : decode cX3_movementError 23 = .ok (.istore_n 3, 1) := by decide +kernel
theorem dX3_movementError_24 : decode cX3_movementError 24 = .ok (.aload_n 0, 1) := by decide +kernel
theorem dX3_movementError_25 : decode cX3_movementError 25 = .ok (.iload_n 3, 1) := by decide +kernel
theorem dX3_movementError_26 : decode cX3_movementError 26 = .ok (.invokevirtual 58, 3) := by decide +kernel
theorem dX3_movementError_29 : decode cX3_movementError 29 = .ok (.istore 4, 2) := by decide +kernel
theorem dX3_movementError_31 : decode cX3_movementError 31 = .ok (.iload 4, 2) := by decide +kernel
theorem dX3_movementError_33 : decode cX3_movementError 33 = .ok (.iload_n 2, 1) := by decide +kernel
theorem dX3_movementError_34 : decode cX3_movementError 34 = .ok (.if_icmp .ge 6, 3) := by decide +kernel
theorem dX3_movementError_37 : decode cX3_movementError 37 = .ok (.bipush (-6), 2) := by decide +kernel
theorem dX3_movementError_39 : decode cX3_movementError 39 = .ok (.ireturn, 1) := by decide +kernel
theorem dX3_movementError_40 : decode cX3_movementError 40 = .ok (.iconst 0, 1) := by decide +kernel
theorem dX3_movementError_41 : decode cX3_movementError 41 = .ok (.istore 5, 2) := by decide +kernel
theorem dX3_movementError_43 : decode cX3_movementError 43 = .ok (.iconst 0, 1) := by decide +kernel
theorem dX3_movementError_44 : decode cX3_movementError 44 = .ok (.istore 6, 2) := by decide +kernel
theorem dX3_movementError_46 : decode cX3_movementError 46 = .ok (.iconst 0, 1) := by decide +kernel
theorem dX3_movementError_47 : decode cX3_movementError 47 = .ok (.istore 7, 2) := by decide +kernel
theorem dX3_movementError_49 : decode cX3_movementError 49 = .ok (.iload 7, 2) := by decide +kernel
theorem dX3_movementError_51 : decode cX3_movementError 51 = .ok (.iload_n 2, 1) := by decide +kernel
theorem dX3_movementError_52 : decode cX3_movementError 52 = .ok (.if_icmp .ge 66, 3) := by decide +kernel
theorem dX3_movementError_55 : decode cX3_movementError 55 = .ok (.aload_n 0, 1) := by decide +kernel
theorem dX3_movementError_56 : decode cX3_movementError 56 = .ok (.iload_n 3, 1) := by decide +kernel
theorem dX3_movementError_57 : decode cX3_movementError 57 = .ok (.iload_n 1, 1) := by decide +kernel
theorem dX3_movementError_58 : decode cX3_movementError 58 = .ok (.bipush 40, 2) := by decide +kernel
theorem dX3_movementError_60 : decode cX3_movementError 60 = .ok (.if_icmp .ne 13, 3) := by decide +kernel
theorem dX3_movementError_63 : decode cX3_movementError 63 = .ok (.iload 4, 2) := by decide +kernel
theorem dX3_movementError_65 : decode cX3_movementError 65 = .ok (.iconst 1, 1) := by decide +kernel
theorem dX3_movementError_66 : decode cX3_movementError 66 = .ok (.isub, 1) := by decide +kernel
theorem dX3_movementError_67 : decode cX3_movementError 67 = .ok (.iload 7, 2) := by decide +kernel
theorem dX3_movementError_69 : decode cX3_movementError 69 = .ok (.isub, 1) := by decide +kernel
theorem dX3_movementError_70 : decode cX3_movementError 70 = .ok (.goto 5, 3) := by decide +kernel
theorem dX3_movementError_73 : decode cX3_movementError 73 = .ok (.iload 7, 2) := by decide +kernel
theorem dX3_movementError_75 : decode cX3_movementError 75 = .ok (.invokevirtual 61, 3) := by decide +kernel
theorem dX3_movementError_78 : decode cX3_movementError 78 = .ok (.istore 8, 2) := by decide +kernel
theorem dX3_movementError_80 : decode cX3_movementError 80 = .ok (.iload 5, 2) := by decide +kernel
theorem dX3_movementError_82 : decode cX3_movementError 82 = .ok (.aload_n 0, 1) := by decide +kernel
theorem dX3_movementError_83 : decode cX3_movementError 83 = .ok (.iload 8, 2) := by decide +kernel
theorem dX3_movementError_85 : decode cX3_movementError 85 = .ok (.invokevirtual 78, 3) := by decide +kernel
theorem dX3_movementError_88 : decode cX3_movementError 88 = .ok (.iadd, 1) := by decide +kernel
theorem dX3_movementError_89 : decode cX3_movementError 89 = .ok (.istore 5, 2) := by decide +kernel
theorem dX3_movementError_91 : decode cX3_movementError 91 = .ok (.iload 6, 2) := by decide +kernel
theorem dX3_movementError_93 : decode cX3_movementError 93 = .ok (.ifCond .ne 12, 3) := by decide +kernel
theorem dX3_movementError_96 : decode cX3_movementError 96 = .ok (.aload_n 0, 1) := by decide +kernel
theorem dX3_movementError_97 : decode cX3_movementError 97 = .ok (.iload 8, 2) := by decide +kernel
theorem dX3_movementError_99 : decode cX3_movementError 99 = .ok (.invokevirtual 96, 3) := by decide +kernel
theorem dX3_movementError_102 : decode cX3_movementError 102 = .ok (.ifCond .eq 7, 3) := by decide +kernel
theorem dX3_movementError_105 : decode cX3_movementError 105 = .ok (.iconst 1, 1) := by decide +kernel
theorem dX3_movementError_106 : decode cX3_movementError 106 = .ok (.goto 4, 3) := by decide +kernel
theorem dX3_movementError_109 : decode cX3_movementError 109 = .ok (.iconst 0, 1) := by decide +kernel
theorem dX3_movementError_110 : decode cX3_movementError 110 = .ok (.istore 6, 2) := by decide +kernel
theorem dX3_movementError_112 : decode cX3_movementError 112 = .ok (.iinc 7 1, 3) := by decide +kernel
theorem dX3_movementError_115 : decode cX3_movementError 115 = .ok (.goto (-66), 3) := by decide +kernel
theorem dX3_movementError_118 : decode cX3_movementError 118 = .ok (.iload 6, 2) := by decide +kernel
theorem dX3_movementError_120 : decode cX3_movementError 120 = .ok (.ifCond .ne 6, 3) := by decide +kernel
theorem dX3_movementError_123 : decode cX3_movementError 123 = .ok (.bipush (-7), 2) := by decide +kernel
theorem dX3_movementError_125 : decode cX3_movementError 125 = .ok (.ireturn, 1) := by decide +kernel
theorem dX3_movementError_126 : decode cX3_movementError 126 = .ok (.iload 5, 2) := by decide +kernel
theorem dX3_movementError_128 : decode cX3_movementError 128 = .ok (.aload_n 0, 1) := by decide +kernel
theorem dX3_movementError_129 : decode cX3_movementError 129 = .ok (.aload_n 0, 1) := by decide +kernel
theorem dX3_movementError_130 : decode cX3_movementError 130 = .ok (.iload_n 1, 1) := by decide +kernel
theorem dX3_movementError_131 : decode cX3_movementError 131 = .ok (.invokevirtual 99, 3) := by decide +kernel
theorem dX3_movementError_134 : decode cX3_movementError 134 = .ok (.invokevirtual 102, 3) := by decide +kernel
theorem dX3_movementError_137 : decode cX3_movementError 137 = .ok (.if_icmp .le 8, 3) := by decide +kernel
theorem dX3_movementError_140 : decode cX3_movementError 140 = .ok (.bipush (-8), 2) := by decide +kernel
theorem dX3_movementError_142 : decode cX3_movementError 142 = .ok (.goto 4, 3) := by decide +kernel
theorem dX3_movementError_145 : decode cX3_movementError 145 = .ok (.iconst 0, 1) := by decide +kernel
theorem dX3_movementError_146 : decode cX3_movementError 146 = .ok (.ireturn, 1) := by decide +kernel
theorem dX3_shift_0 : decode cX3_shift 0 = .ok (.aload_n 0, 1) := by decide +kernel
theorem dX3_shift_1 : decode cX3_shift 1 = .ok (.iload_n 1, 1) := by decide +kernel
theorem dX3_shift_2 : decode cX3_shift 2 = .ok (.invokevirtual 93, 3) := by decide +kernel
theorem dX3_shift_5 : decode cX3_shift 5 = .ok (.istore_n 3, 1) := by decide +kernel
theorem dX3_shift_6 : decode cX3_shift 6 = .ok (.aload_n 0, 1) := by decide +kernel
theorem dX3_shift_7 : decode cX3_shift 7 = .ok (.iload_n 1, 1) := by decide +kernel
theorem dX3_shift_8 : decode cX3_shift 8 = .ok (.invokevirtual 99, 3) := by decide +kernel
theorem dX3_shift_11 : decode cX3_shift 11 = .ok (.istore 4, 2) := by decide +kernel
theorem dX3_shift_13 : decode cX3_shift 13 = .ok (.iconst 0, 1) := by decide +kernel
theorem dX3_shift_14 : decode cX3_shift 14 = .ok (.istore 5, 2) := by decide +kernel
theorem dX3_shift_16 : decode cX3_shift 16 = .ok (.iload 5, 2) := by decide +kernel
theorem dX3_shift_18 : decode cX3_shift 18 = .ok (.iload_n 2, 1) := by decide +kernel
theorem dX3_shift_19 : decode cX3_shift 19 = .ok (.if_icmp .ge 58, 3) := by decide +kernel
theorem dX3_shift_22 : decode cX3_shift 22 = .ok (.aload_n 0, 1) := by decide +kernel
theorem dX3_shift_23 : decode cX3_shift 23 = .ok (.iload_n 3, 1) := by decide +kernel
theorem dX3_shift_24 : decode cX3_shift 24 = .ok (.iload_n 1, 1) := by decide +kernel
theorem dX3_shift_25 : decode cX3_shift 25 = .ok (.bipush 40, 2) := by decide +kernel
theorem dX3_shift_27 : decode cX3_shift 27 = .ok (.if_icmp .ne 14, 3) := by decide +kernel
theorem dX3_shift_30 : decode cX3_shift 30 = .ok (.aload_n 0, 1) := by decide +kernel
theorem dX3_shift_31 : decode cX3_shift 31 = .ok (.bipush 12, 2) := by decide +kernel
theorem dX3_shift_33 : decode cX3_shift 33 = .ok (.invokevirtual 58, 3) := by decide +kernel
theorem dX3_shift_36 : decode cX3_shift 36 = .ok (.iconst 1, 1) := by decide +kernel
theorem dX3_shift_37 : decode cX3_shift 37 = .ok (.isub, 1) := by decide +kernel
theorem dX3_shift_38 : decode cX3_shift 38 = .ok (.goto 4, 3) := by decide +kernel
theorem dX3_shift_41 : decode cX3_shift 41 = .ok (.iconst 0, 1) := by decide +kernel
theorem dX3_shift_42 : decode cX3_shift 42 = .ok (.invokevirtual 75, 3) := by decide +kernel
theorem dX3_shift_45 : decode cX3_shift 45 = .ok (.istore 6, 2) := by decide +kernel
theorem dX3_shift_47 : decode cX3_shift 47 = .ok (.aload_n 0, 1) := by decide +kernel
theorem dX3_shift_48 : decode cX3_shift 48 = .ok (.iload 4, 2) := by decide +kernel
theorem dX3_shift_50 : decode cX3_shift 50 = .ok (.iload_n 1, 1) := by decide +kernel
theorem dX3_shift_51 : decode cX3_shift 51 = .ok (.bipush 20, 2) := by decide +kernel
theorem dX3_shift_53 : decode cX3_shift 53 = .ok (.if_icmp .ne 12, 3) := by decide +kernel
theorem dX3_shift_56 : decode cX3_shift 56 = .ok (.aload_n 0, 1) := by decide +kernel
theorem dX3_shift_57 : decode cX3_shift 57 = .ok (.bipush 12, 2) := by decide +kernel
theorem dX3_shift_59 : decode cX3_shift 59 = .ok (.invokevirtual 58, 3) := by decide +kernel
theorem dX3_shift_62 : decode cX3_shift 62 = .ok (.goto 4, 3) := by decide +kernel
theorem dX3_shift_65 : decode cX3_shift 65 = .ok (.iconst 0, 1) := by decide +kernel
theorem dX3_shift_66 : decode cX3_shift 66 = .ok (.iload 6, 2) := by decide +kernel
theorem dX3_shift_68 : decode cX3_shift 68 = .ok (.invokevirtual 68, 3) := by decide +kernel
theorem dX3_shift_71 : decode cX3_shift 71 = .ok (.iinc 5 1, 3) := by decide +kernel
theorem dX3_shift_74 : decode cX3_shift 74 = .ok (.goto (-58), 3) := by decide +kernel
theorem dX3_shift_77 : decode cX3_shift 77 = .ok (.return_, 1) := by decide +kernel
theorem dX3_carryOut_0 : decode cX3_carryOut 0 = .ok (.iload_n 1, 1) := by decide +kernel
theorem dX3_carryOut_1 : decode cX3_carryOut 1 = .ok (.ifCond .ne 19, 3) := by decide +kernel
theorem dX3_carryOut_4 : decode cX3_carryOut 4 = .ok (.aload_n 0, 1) := by decide +kernel
theorem dX3_carryOut_5 : decode cX3_carryOut 5 = .ok (.aload_n 0, 1) := by decide +kernel
theorem dX3_carryOut_6 : decode cX3_carryOut 6 = .ok (.getfield 40, 3) := by decide +kernel
theorem dX3_carryOut_9 : decode cX3_carryOut 9 = .ok (.iconst 1, 1) := by decide +kernel
theorem dX3_carryOut_10 : decode cX3_carryOut 10 = .ok (.iadd, 1) := by decide +kernel
theorem dX3_carryOut_11 : decode cX3_carryOut 11 = .ok (.bipush 12, 2) := by decide +kernel
theorem dX3_carryOut_13 : decode cX3_carryOut 13 = .ok (.irem, 1) := by decide +kernel
theorem dX3_carryOut_14 : decode cX3_carryOut 14 = .ok (.putfield 40, 3) := by decide +kernel
theorem dX3_carryOut_17 : decode cX3_carryOut 17 = .ok (.goto 41, 3) := by decide +kernel
theorem dX3_carryOut_20 : decode cX3_carryOut 20 = .ok (.iload_n 1, 1) := by decide +kernel
theorem dX3_carryOut_21 : decode cX3_carryOut 21 = .ok (.iconst 1, 1) := by decide +kernel
theorem dX3_carryOut_22 : decode cX3_carryOut 22 = .ok (.if_icmp .ne 22, 3) := by decide +kernel
theorem dX3_carryOut_25 : decode cX3_carryOut 25 = .ok (.aload_n 0, 1) := by decide +kernel
theorem dX3_carryOut_26 : decode cX3_carryOut 26 = .ok (.aload_n 0, 1) := by decide +kernel
theorem dX3_carryOut_27 : decode cX3_carryOut 27 = .ok (.getfield 40, 3) := by decide +kernel
theorem dX3_carryOut_30 : decode cX3_carryOut 30 = .ok (.bipush 12, 2) := by decide +kernel
theorem dX3_carryOut_32 : decode cX3_carryOut 32 = .ok (.iadd, 1) := by decide +kernel
theorem dX3_carryOut_33 : decode cX3_carryOut 33 = .ok (.iconst 1, 1) := by decide +kernel
theorem dX3_carryOut_34 : decode cX3_carryOut 34 = .ok (.isub, 1) := by decide +kernel
theorem dX3_carryOut_35 : decode cX3_carryOut 35 = .ok (.bipush 12, 2) := by decide +kernel
theorem dX3_carryOut_37 : decode cX3_carryOut 37 = .ok (.irem, 1) := by decide +kernel
theorem dX3_carryOut_38 : decode cX3_carryOut 38 = .ok (.putfield 40, 3) := by decide +kernel
theorem dX3_carryOut_41 : decode cX3_carryOut 41 = .ok (.goto 17, 3) := by decide +kernel
theorem dX3_carryOut_44 : decode cX3_carryOut 44 = .ok (.aload_n 0, 1) := by decide +kernel
theorem dX3_carryOut_45 : decode cX3_carryOut 45 = .ok (.iload_n 1, 1) := by decide +kernel
theorem dX3_carryOut_46 : decode cX3_carryOut 46 = .ok (.iload_n 1, 1) := by decide +kernel
theorem dX3_carryOut_47 : decode cX3_carryOut 47 = .ok (.bipush 10, 2) := by decide +kernel
theorem dX3_carryOut_49 : decode cX3_carryOut 49 = .ok (.irem, 1) := by decide +kernel
theorem dX3_carryOut_50 : decode cX3_carryOut 50 = .ok (.isub, 1) := by decide +kernel
theorem dX3_carryOut_51 : decode cX3_carryOut 51 = .ok (.iload_n 1, 1) := by decide +kernel
theorem dX3_carryOut_52 : decode cX3_carryOut 52 = .ok (.bipush 10, 2) := by decide +kernel
theorem dX3_carryOut_54 : decode cX3_carryOut 54 = .ok (.irem, 1) := by decide +kernel
theorem dX3_carryOut_55 : decode cX3_carryOut 55 = .ok (.invokevirtual 105, 3) := by decide +kernel
theorem dX3_carryOut_58 : decode cX3_carryOut 58 = .ok (.return_, 1) := by decide +kernel
