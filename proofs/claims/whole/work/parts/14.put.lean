theorem f4_at_0 (hp s0 s1 : Bool) (m : HM) : (fX4 hp s0 s1 m)[0]? = some (some (.inr (.inr (4, [.ref 1, .ref 7, .ref 8, cond hp (.ref 10) .null, .int (m.1)])))) := rfl
theorem f4_at_1 (hp s0 s1 : Bool) (m : HM) : (fX4 hp s0 s1 m)[1]? = some (some (.inr (.inr (3, [.ref 2, .ref 3, .ref 4, .ref 5, .ref 6, .int (m.2.1 8 5), .int (m.2.1 8 6), .int (m.2.1 8 7)])))) := rfl
theorem f4_at_2 (hp s0 s1 : Bool) (m : HM) : (fX4 hp s0 s1 m)[2]? = some (some (.inl (0, 13, m.2.1 0))) := rfl
theorem f4_at_3 (hp s0 s1 : Bool) (m : HM) : (fX4 hp s0 s1 m)[3]? = some (some (.inl (0, 13, m.2.1 1))) := rfl
theorem f4_at_4 (hp s0 s1 : Bool) (m : HM) : (fX4 hp s0 s1 m)[4]? = some (some (.inl (0, 13, m.2.1 2))) := rfl
theorem f4_at_5 (hp s0 s1 : Bool) (m : HM) : (fX4 hp s0 s1 m)[5]? = some (some (.inl (0, 104, m.2.1 3))) := rfl
theorem f4_at_6 (hp s0 s1 : Bool) (m : HM) : (fX4 hp s0 s1 m)[6]? = some (some (.inl (0, 8, m.2.1 4))) := rfl
theorem f4_at_7 (hp s0 s1 : Bool) (m : HM) : (fX4 hp s0 s1 m)[7]? = some (some (.inr (.inl [cond s0 (some 26) none, cond s1 (some 32) none]))) := rfl
theorem f4_at_8 (hp s0 s1 : Bool) (m : HM) : (fX4 hp s0 s1 m)[8]? = some (some (.inr (.inr (0, [.ref 9, .int (m.2.2.1 2 1)])))) := rfl
theorem f4_at_9 (hp s0 s1 : Bool) (m : HM) : (fX4 hp s0 s1 m)[9]? = some (some (.inl (0, 40, m.2.2.1 0))) := rfl
theorem f4_at_10 (hp s0 s1 : Bool) (m : HM) : (fX4 hp s0 s1 m)[10]? = some (cond hp (some (.inr (.inr (1, [.ref 11, .ref 17, .ref 18, .ref 19, .ref 20, .ref 21, .ref 22, .ref 24, .int (m.2.2.2.1 13 8), .int (m.2.2.2.1 13 9), .int (m.2.2.2.1 13 10), .int (m.2.2.2.1 13 11), .int (m.2.2.2.1 13 12)])))) none) := rfl
theorem f4_at_11 (hp s0 s1 : Bool) (m : HM) : (fX4 hp s0 s1 m)[11]? = some (cond hp (some (.inr (.inr (3, [.ref 12, .ref 13, .ref 14, .ref 15, .ref 16, .int (m.2.2.2.1 28 5), .int (m.2.2.2.1 28 6), .int (m.2.2.2.1 28 7)])))) none) := rfl
theorem f4_at_12 (hp s0 s1 : Bool) (m : HM) : (fX4 hp s0 s1 m)[12]? = some (cond hp (some (.inl (0, 13, m.2.2.2.1 20))) none) := rfl
theorem f4_at_13 (hp s0 s1 : Bool) (m : HM) : (fX4 hp s0 s1 m)[13]? = some (cond hp (some (.inl (0, 13, m.2.2.2.1 21))) none) := rfl
theorem f4_at_14 (hp s0 s1 : Bool) (m : HM) : (fX4 hp s0 s1 m)[14]? = some (cond hp (some (.inl (0, 13, m.2.2.2.1 22))) none) := rfl
theorem f4_at_15 (hp s0 s1 : Bool) (m : HM) : (fX4 hp s0 s1 m)[15]? = some (cond hp (some (.inl (0, 104, m.2.2.2.1 23))) none) := rfl
theorem f4_at_16 (hp s0 s1 : Bool) (m : HM) : (fX4 hp s0 s1 m)[16]? = some (cond hp (some (.inl (0, 8, m.2.2.2.1 24))) none) := rfl
theorem f4_at_17 (hp s0 s1 : Bool) (m : HM) : (fX4 hp s0 s1 m)[17]? = some (cond hp (some (.inl (0, 6, m.2.2.2.1 1))) none) := rfl
theorem f4_at_18 (hp s0 s1 : Bool) (m : HM) : (fX4 hp s0 s1 m)[18]? = some (cond hp (some (.inl (0, 3, m.2.2.2.1 2))) none) := rfl
theorem f4_at_19 (hp s0 s1 : Bool) (m : HM) : (fX4 hp s0 s1 m)[19]? = some (cond hp (some (.inl (0, 14, m.2.2.2.1 3))) none) := rfl
theorem f4_at_20 (hp s0 s1 : Bool) (m : HM) : (fX4 hp s0 s1 m)[20]? = some (cond hp (some (.inl (0, 14, m.2.2.2.1 4))) none) := rfl
theorem f4_at_21 (hp s0 s1 : Bool) (m : HM) : (fX4 hp s0 s1 m)[21]? = some (cond hp (some (.inl (0, 4032, m.2.2.2.1 5))) none) := rfl
theorem f4_at_22 (hp s0 s1 : Bool) (m : HM) : (fX4 hp s0 s1 m)[22]? = some (cond hp (some (.inr (.inr (2, [.ref 23, .int (m.2.2.2.1 33 1), .int (m.2.2.2.1 33 2)])))) none) := rfl
theorem f4_at_23 (hp s0 s1 : Bool) (m : HM) : (fX4 hp s0 s1 m)[23]? = some (cond hp (some (.inl (0, 4032, m.2.2.2.1 30))) none) := rfl
theorem f4_at_24 (hp s0 s1 : Bool) (m : HM) : (fX4 hp s0 s1 m)[24]? = some (cond hp (some (.inr (.inr (2, [.ref 25, .int (m.2.2.2.1 43 1), .int (m.2.2.2.1 43 2)])))) none) := rfl
theorem f4_at_25 (hp s0 s1 : Bool) (m : HM) : (fX4 hp s0 s1 m)[25]? = some (cond hp (some (.inl (0, 4032, m.2.2.2.1 40))) none) := rfl
theorem f4_at_26 (hp s0 s1 : Bool) (m : HM) : (fX4 hp s0 s1 m)[26]? = some (cond s0 (some (.inr (.inr (3, [.ref 27, .ref 28, .ref 29, .ref 30, .ref 31, .int (m.2.2.2.2.1 8 5), .int (m.2.2.2.2.1 8 6), .int (m.2.2.2.2.1 8 7)])))) none) := rfl
theorem f4_at_27 (hp s0 s1 : Bool) (m : HM) : (fX4 hp s0 s1 m)[27]? = some (cond s0 (some (.inl (0, 13, m.2.2.2.2.1 0))) none) := rfl
theorem f4_at_28 (hp s0 s1 : Bool) (m : HM) : (fX4 hp s0 s1 m)[28]? = some (cond s0 (some (.inl (0, 13, m.2.2.2.2.1 1))) none) := rfl
theorem f4_at_29 (hp s0 s1 : Bool) (m : HM) : (fX4 hp s0 s1 m)[29]? = some (cond s0 (some (.inl (0, 13, m.2.2.2.2.1 2))) none) := rfl
theorem f4_at_30 (hp s0 s1 : Bool) (m : HM) : (fX4 hp s0 s1 m)[30]? = some (cond s0 (some (.inl (0, 104, m.2.2.2.2.1 3))) none) := rfl
theorem f4_at_31 (hp s0 s1 : Bool) (m : HM) : (fX4 hp s0 s1 m)[31]? = some (cond s0 (some (.inl (0, 8, m.2.2.2.2.1 4))) none) := rfl
theorem f4_at_32 (hp s0 s1 : Bool) (m : HM) : (fX4 hp s0 s1 m)[32]? = some (cond s1 (some (.inr (.inr (3, [.ref 33, .ref 34, .ref 35, .ref 36, .ref 37, .int (m.2.2.2.2.2 8 5), .int (m.2.2.2.2.2 8 6), .int (m.2.2.2.2.2 8 7)])))) none) := rfl
theorem f4_at_33 (hp s0 s1 : Bool) (m : HM) : (fX4 hp s0 s1 m)[33]? = some (cond s1 (some (.inl (0, 13, m.2.2.2.2.2 0))) none) := rfl
theorem f4_at_34 (hp s0 s1 : Bool) (m : HM) : (fX4 hp s0 s1 m)[34]? = some (cond s1 (some (.inl (0, 13, m.2.2.2.2.2 1))) none) := rfl
theorem f4_at_35 (hp s0 s1 : Bool) (m : HM) : (fX4 hp s0 s1 m)[35]? = some (cond s1 (some (.inl (0, 13, m.2.2.2.2.2 2))) none) := rfl
theorem f4_at_36 (hp s0 s1 : Bool) (m : HM) : (fX4 hp s0 s1 m)[36]? = some (cond s1 (some (.inl (0, 104, m.2.2.2.2.2 3))) none) := rfl
theorem f4_at_37 (hp s0 s1 : Bool) (m : HM) : (fX4 hp s0 s1 m)[37]? = some (cond s1 (some (.inl (0, 8, m.2.2.2.2.2 4))) none) := rfl
set_option maxRecDepth 20000 in
set_option maxHeartbeats 4000000 in
theorem pt_1_X3 (hp s0 s1 : Bool) (m : HM) (k : Mu) : am_put [1, 2, 3, 4, 5, 6] ((fX3 k).map (Option.map (am_rn [1, 2, 3, 4, 5, 6]))) (fX4 hp s0 s1 m) = fX4 hp s0 s1 (m.1, k, m.2.2) := by
  refine am_put_eq [0, 7, 8, 9, 10, 11, 12, 13, 14, 15, 16, 17, 18, 19, 20, 21, 22, 23, 24, 25, 26, 27, 28, 29, 30, 31, 32, 33, 34, 35, 36, 37] rfl rfl rfl rfl rfl ?_ ?_
  · simp only [List.map_cons, List.map_nil, f4_at_0, f4_at_1, f4_at_2, f4_at_3, f4_at_4, f4_at_5, f4_at_6, f4_at_7, f4_at_8, f4_at_9, f4_at_10, f4_at_11, f4_at_12, f4_at_13, f4_at_14, f4_at_15, f4_at_16, f4_at_17, f4_at_18, f4_at_19, f4_at_20, f4_at_21, f4_at_22, f4_at_23, f4_at_24, f4_at_25, f4_at_26, f4_at_27, f4_at_28, f4_at_29, f4_at_30, f4_at_31, f4_at_32, f4_at_33, f4_at_34, f4_at_35, f4_at_36, f4_at_37]
    rfl
  · simp only [List.map_cons, List.map_nil, f4_at_0, f4_at_1, f4_at_2, f4_at_3, f4_at_4, f4_at_5, f4_at_6, f4_at_7, f4_at_8, f4_at_9, f4_at_10, f4_at_11, f4_at_12, f4_at_13, f4_at_14, f4_at_15, f4_at_16, f4_at_17, f4_at_18, f4_at_19, f4_at_20, f4_at_21, f4_at_22, f4_at_23, f4_at_24, f4_at_25, f4_at_26, f4_at_27, f4_at_28, f4_at_29, f4_at_30, f4_at_31, f4_at_32, f4_at_33, f4_at_34, f4_at_35, f4_at_36, f4_at_37]
set_option maxRecDepth 20000 in
set_option maxHeartbeats 4000000 in
theorem pt_8_X0 (hp s0 s1 : Bool) (m : HM) (k : Mu) : am_put [8, 9] ((fX0 k).map (Option.map (am_rn [8, 9]))) (fX4 hp s0 s1 m) = fX4 hp s0 s1 (m.1, m.2.1, k, m.2.2.2) := by
  refine am_put_eq [0, 1, 2, 3, 4, 5, 6, 7, 10, 11, 12, 13, 14, 15, 16, 17, 18, 19, 20, 21, 22, 23, 24, 25, 26, 27, 28, 29, 30, 31, 32, 33, 34, 35, 36, 37] rfl rfl rfl rfl rfl ?_ ?_
  · simp only [List.map_cons, List.map_nil, f4_at_0, f4_at_1, f4_at_2, f4_at_3, f4_at_4, f4_at_5, f4_at_6, f4_at_7, f4_at_8, f4_at_9, f4_at_10, f4_at_11, f4_at_12, f4_at_13, f4_at_14, f4_at_15, f4_at_16, f4_at_17, f4_at_18, f4_at_19, f4_at_20, f4_at_21, f4_at_22, f4_at_23, f4_at_24, f4_at_25, f4_at_26, f4_at_27, f4_at_28, f4_at_29, f4_at_30, f4_at_31, f4_at_32, f4_at_33, f4_at_34, f4_at_35, f4_at_36, f4_at_37]
    rfl
  · simp only [List.map_cons, List.map_nil, f4_at_0, f4_at_1, f4_at_2, f4_at_3, f4_at_4, f4_at_5, f4_at_6, f4_at_7, f4_at_8, f4_at_9, f4_at_10, f4_at_11, f4_at_12, f4_at_13, f4_at_14, f4_at_15, f4_at_16, f4_at_17, f4_at_18, f4_at_19, f4_at_20, f4_at_21, f4_at_22, f4_at_23, f4_at_24, f4_at_25, f4_at_26, f4_at_27, f4_at_28, f4_at_29, f4_at_30, f4_at_31, f4_at_32, f4_at_33, f4_at_34, f4_at_35, f4_at_36, f4_at_37]
set_option maxRecDepth 20000 in
set_option maxHeartbeats 4000000 in
theorem pt_10_X1 (s0 s1 : Bool) (m : HM) (k : Mu) : am_put [10, 11, 12, 13, 14, 15, 16, 17, 18, 19, 20, 21, 22, 23, 24, 25] ((fX1 k).map (Option.map (am_rn [10, 11, 12, 13, 14, 15, 16, 17, 18, 19, 20, 21, 22, 23, 24, 25]))) (fX4 true s0 s1 m) = fX4 true s0 s1 (m.1, m.2.1, m.2.2.1, k, m.2.2.2.2) := by
  refine am_put_eq [0, 1, 2, 3, 4, 5, 6, 7, 8, 9, 26, 27, 28, 29, 30, 31, 32, 33, 34, 35, 36, 37] rfl rfl rfl rfl rfl ?_ ?_
  · simp only [List.map_cons, List.map_nil, f4_at_0, f4_at_1, f4_at_2, f4_at_3, f4_at_4, f4_at_5, f4_at_6, f4_at_7, f4_at_8, f4_at_9, f4_at_10, f4_at_11, f4_at_12, f4_at_13, f4_at_14, f4_at_15, f4_at_16, f4_at_17, f4_at_18, f4_at_19, f4_at_20, f4_at_21, f4_at_22, f4_at_23, f4_at_24, f4_at_25, f4_at_26, f4_at_27, f4_at_28, f4_at_29, f4_at_30, f4_at_31, f4_at_32, f4_at_33, f4_at_34, f4_at_35, f4_at_36, f4_at_37]
    rfl
  · simp only [List.map_cons, List.map_nil, f4_at_0, f4_at_1, f4_at_2, f4_at_3, f4_at_4, f4_at_5, f4_at_6, f4_at_7, f4_at_8, f4_at_9, f4_at_10, f4_at_11, f4_at_12, f4_at_13, f4_at_14, f4_at_15, f4_at_16, f4_at_17, f4_at_18, f4_at_19, f4_at_20, f4_at_21, f4_at_22, f4_at_23, f4_at_24, f4_at_25, f4_at_26, f4_at_27, f4_at_28, f4_at_29, f4_at_30, f4_at_31, f4_at_32, f4_at_33, f4_at_34, f4_at_35, f4_at_36, f4_at_37]
set_option maxRecDepth 20000 in
set_option maxHeartbeats 4000000 in
theorem pt_10_1_X1Y (s0 s1 : Bool) (m : HM) (k : Mu) : am_put [10, 11, 12, 13, 14, 15, 16, 17, 18, 19, 20, 21, 22, 23, 24, 25, 1, 2, 3, 4, 5, 6] ((fX1Y k).map (Option.map (am_rn [10, 11, 12, 13, 14, 15, 16, 17, 18, 19, 20, 21, 22, 23, 24, 25, 1, 2, 3, 4, 5, 6]))) (fX4 true s0 s1 m) = fX4 true s0 s1 (m.1, (mu_sub k 50), m.2.2.1, k, m.2.2.2.2.1, m.2.2.2.2.2) := by
  refine am_put_eq [0, 7, 8, 9, 26, 27, 28, 29, 30, 31, 32, 33, 34, 35, 36, 37] rfl rfl rfl rfl rfl ?_ ?_
  · simp only [List.map_cons, List.map_nil, f4_at_0, f4_at_1, f4_at_2, f4_at_3, f4_at_4, f4_at_5, f4_at_6, f4_at_7, f4_at_8, f4_at_9, f4_at_10, f4_at_11, f4_at_12, f4_at_13, f4_at_14, f4_at_15, f4_at_16, f4_at_17, f4_at_18, f4_at_19, f4_at_20, f4_at_21, f4_at_22, f4_at_23, f4_at_24, f4_at_25, f4_at_26, f4_at_27, f4_at_28, f4_at_29, f4_at_30, f4_at_31, f4_at_32, f4_at_33, f4_at_34, f4_at_35, f4_at_36, f4_at_37]
    rfl
  · simp only [List.map_cons, List.map_nil, f4_at_0, f4_at_1, f4_at_2, f4_at_3, f4_at_4, f4_at_5, f4_at_6, f4_at_7, f4_at_8, f4_at_9, f4_at_10, f4_at_11, f4_at_12, f4_at_13, f4_at_14, f4_at_15, f4_at_16, f4_at_17, f4_at_18, f4_at_19, f4_at_20, f4_at_21, f4_at_22, f4_at_23, f4_at_24, f4_at_25, f4_at_26, f4_at_27, f4_at_28, f4_at_29, f4_at_30, f4_at_31, f4_at_32, f4_at_33, f4_at_34, f4_at_35, f4_at_36, f4_at_37]
set_option maxRecDepth 20000 in
set_option maxHeartbeats 4000000 in
theorem pt_1_26_X3Y (hp s1 : Bool) (m : HM) (k : Mu) : am_put [1, 2, 3, 4, 5, 6, 26, 27, 28, 29, 30, 31] ((fX3Y k).map (Option.map (am_rn [1, 2, 3, 4, 5, 6, 26, 27, 28, 29, 30, 31]))) (fX4 hp true s1 m) = fX4 hp true s1 (m.1, k, m.2.2.1, m.2.2.2.1, (mu_sub k 10), m.2.2.2.2.2) := by
  refine am_put_eq [0, 7, 8, 9, 10, 11, 12, 13, 14, 15, 16, 17, 18, 19, 20, 21, 22, 23, 24, 25, 32, 33, 34, 35, 36, 37] rfl rfl rfl rfl rfl ?_ ?_
  · simp only [List.map_cons, List.map_nil, f4_at_0, f4_at_1, f4_at_2, f4_at_3, f4_at_4, f4_at_5, f4_at_6, f4_at_7, f4_at_8, f4_at_9, f4_at_10, f4_at_11, f4_at_12, f4_at_13, f4_at_14, f4_at_15, f4_at_16, f4_at_17, f4_at_18, f4_at_19, f4_at_20, f4_at_21, f4_at_22, f4_at_23, f4_at_24, f4_at_25, f4_at_26, f4_at_27, f4_at_28, f4_at_29, f4_at_30, f4_at_31, f4_at_32, f4_at_33, f4_at_34, f4_at_35, f4_at_36, f4_at_37]
    rfl
  · simp only [List.map_cons, List.map_nil, f4_at_0, f4_at_1, f4_at_2, f4_at_3, f4_at_4, f4_at_5, f4_at_6, f4_at_7, f4_at_8, f4_at_9, f4_at_10, f4_at_11, f4_at_12, f4_at_13, f4_at_14, f4_at_15, f4_at_16, f4_at_17, f4_at_18, f4_at_19, f4_at_20, f4_at_21, f4_at_22, f4_at_23, f4_at_24, f4_at_25, f4_at_26, f4_at_27, f4_at_28, f4_at_29, f4_at_30, f4_at_31, f4_at_32, f4_at_33, f4_at_34, f4_at_35, f4_at_36, f4_at_37]
set_option maxRecDepth 20000 in
set_option maxHeartbeats 4000000 in
theorem pt_1_32_X3Y (hp s0 : Bool) (m : HM) (k : Mu) : am_put [1, 2, 3, 4, 5, 6, 32, 33, 34, 35, 36, 37] ((fX3Y k).map (Option.map (am_rn [1, 2, 3, 4, 5, 6, 32, 33, 34, 35, 36, 37]))) (fX4 hp s0 true m) = fX4 hp s0 true (m.1, k, m.2.2.1, m.2.2.2.1, m.2.2.2.2.1, (mu_sub k 10)) := by
  refine am_put_eq [0, 7, 8, 9, 10, 11, 12, 13, 14, 15, 16, 17, 18, 19, 20, 21, 22, 23, 24, 25, 26, 27, 28, 29, 30, 31] rfl rfl rfl rfl rfl ?_ ?_
  · simp only [List.map_cons, List.map_nil, f4_at_0, f4_at_1, f4_at_2, f4_at_3, f4_at_4, f4_at_5, f4_at_6, f4_at_7, f4_at_8, f4_at_9, f4_at_10, f4_at_11, f4_at_12, f4_at_13, f4_at_14, f4_at_15, f4_at_16, f4_at_17, f4_at_18, f4_at_19, f4_at_20, f4_at_21, f4_at_22, f4_at_23, f4_at_24, f4_at_25, f4_at_26, f4_at_27, f4_at_28, f4_at_29, f4_at_30, f4_at_31, f4_at_32, f4_at_33, f4_at_34, f4_at_35, f4_at_36, f4_at_37]
    rfl
  · simp only [List.map_cons, List.map_nil, f4_at_0, f4_at_1, f4_at_2, f4_at_3, f4_at_4, f4_at_5, f4_at_6, f4_at_7, f4_at_8, f4_at_9, f4_at_10, f4_at_11, f4_at_12, f4_at_13, f4_at_14, f4_at_15, f4_at_16, f4_at_17, f4_at_18, f4_at_19, f4_at_20, f4_at_21, f4_at_22, f4_at_23, f4_at_24, f4_at_25, f4_at_26, f4_at_27, f4_at_28, f4_at_29, f4_at_30, f4_at_31, f4_at_32, f4_at_33, f4_at_34, f4_at_35, f4_at_36, f4_at_37]
set_option maxRecDepth 20000 in
set_option maxHeartbeats 4000000 in
theorem pt_26_1_X3Y (hp s1 : Bool) (m : HM) (k : Mu) : am_put [26, 27, 28, 29, 30, 31, 1, 2, 3, 4, 5, 6] ((fX3Y k).map (Option.map (am_rn [26, 27, 28, 29, 30, 31, 1, 2, 3, 4, 5, 6]))) (fX4 hp true s1 m) = fX4 hp true s1 (m.1, (mu_sub k 10), m.2.2.1, m.2.2.2.1, k, m.2.2.2.2.2) := by
  refine am_put_eq [0, 7, 8, 9, 10, 11, 12, 13, 14, 15, 16, 17, 18, 19, 20, 21, 22, 23, 24, 25, 32, 33, 34, 35, 36, 37] rfl rfl rfl rfl rfl ?_ ?_
  · simp only [List.map_cons, List.map_nil, f4_at_0, f4_at_1, f4_at_2, f4_at_3, f4_at_4, f4_at_5, f4_at_6, f4_at_7, f4_at_8, f4_at_9, f4_at_10, f4_at_11, f4_at_12, f4_at_13, f4_at_14, f4_at_15, f4_at_16, f4_at_17, f4_at_18, f4_at_19, f4_at_20, f4_at_21, f4_at_22, f4_at_23, f4_at_24, f4_at_25, f4_at_26, f4_at_27, f4_at_28, f4_at_29, f4_at_30, f4_at_31, f4_at_32, f4_at_33, f4_at_34, f4_at_35, f4_at_36, f4_at_37]
    rfl
  · simp only [List.map_cons, List.map_nil, f4_at_0, f4_at_1, f4_at_2, f4_at_3, f4_at_4, f4_at_5, f4_at_6, f4_at_7, f4_at_8, f4_at_9, f4_at_10, f4_at_11, f4_at_12, f4_at_13, f4_at_14, f4_at_15, f4_at_16, f4_at_17, f4_at_18, f4_at_19, f4_at_20, f4_at_21, f4_at_22, f4_at_23, f4_at_24, f4_at_25, f4_at_26, f4_at_27, f4_at_28, f4_at_29, f4_at_30, f4_at_31, f4_at_32, f4_at_33, f4_at_34, f4_at_35, f4_at_36, f4_at_37]
set_option maxRecDepth 20000 in
set_option maxHeartbeats 4000000 in
theorem pt_32_1_X3Y (hp s0 : Bool) (m : HM) (k : Mu) : am_put [32, 33, 34, 35, 36, 37, 1, 2, 3, 4, 5, 6] ((fX3Y k).map (Option.map (am_rn [32, 33, 34, 35, 36, 37, 1, 2, 3, 4, 5, 6]))) (fX4 hp s0 true m) = fX4 hp s0 true (m.1, (mu_sub k 10), m.2.2.1, m.2.2.2.1, m.2.2.2.2.1, k) := by
  refine am_put_eq [0, 7, 8, 9, 10, 11, 12, 13, 14, 15, 16, 17, 18, 19, 20, 21, 22, 23, 24, 25, 26, 27, 28, 29, 30, 31] rfl rfl rfl rfl rfl ?_ ?_
  · simp only [List.map_cons, List.map_nil, f4_at_0, f4_at_1, f4_at_2, f4_at_3, f4_at_4, f4_at_5, f4_at_6, f4_at_7, f4_at_8, f4_at_9, f4_at_10, f4_at_11, f4_at_12, f4_at_13, f4_at_14, f4_at_15, f4_at_16, f4_at_17, f4_at_18, f4_at_19, f4_at_20, f4_at_21, f4_at_22, f4_at_23, f4_at_24, f4_at_25, f4_at_26, f4_at_27, f4_at_28, f4_at_29, f4_at_30, f4_at_31, f4_at_32, f4_at_33, f4_at_34, f4_at_35, f4_at_36, f4_at_37]
    rfl
  · simp only [List.map_cons, List.map_nil, f4_at_0, f4_at_1, f4_at_2, f4_at_3, f4_at_4, f4_at_5, f4_at_6, f4_at_7, f4_at_8, f4_at_9, f4_at_10, f4_at_11, f4_at_12, f4_at_13, f4_at_14, f4_at_15, f4_at_16, f4_at_17, f4_at_18, f4_at_19, f4_at_20, f4_at_21, f4_at_22, f4_at_23, f4_at_24, f4_at_25, f4_at_26, f4_at_27, f4_at_28, f4_at_29, f4_at_30, f4_at_31, f4_at_32, f4_at_33, f4_at_34, f4_at_35, f4_at_36, f4_at_37]
set_option maxRecDepth 20000 in
set_option maxHeartbeats 4000000 in
theorem mk_10 (s0 s1 : Bool) (m : HM) (o : Option am_C) (k : Mu) : am_put [10, 11, 12, 13, 14, 15, 16, 17, 18, 19, 20, 21, 22, 23, 24, 25] ((fX1 k).map (Option.map (am_rn [10, 11, 12, 13, 14, 15, 16, 17, 18, 19, 20, 21, 22, 23, 24, 25]))) (List.set (fX4 false s0 s1 m) 10 o) = List.set (fX4 true s0 s1 (m.1, m.2.1, m.2.2.1, k, m.2.2.2.2)) 0 (some (.inr (.inr (4, [.ref 1, .ref 7, .ref 8, .null, .int m.1])))) := by
  refine am_put_eq [0, 1, 2, 3, 4, 5, 6, 7, 8, 9, 26, 27, 28, 29, 30, 31, 32, 33, 34, 35, 36, 37] rfl rfl (by rw [List.length_set, List.length_set]; rfl) rfl rfl ?_ ?_
  · simp only [List.map_cons, List.map_nil, List.getElem?_set, Nat.reduceEqDiff, if_false, if_true, reduceIte, f4_at_0, f4_at_1, f4_at_2, f4_at_3, f4_at_4, f4_at_5, f4_at_6, f4_at_7, f4_at_8, f4_at_9, f4_at_10, f4_at_11, f4_at_12, f4_at_13, f4_at_14, f4_at_15, f4_at_16, f4_at_17, f4_at_18, f4_at_19, f4_at_20, f4_at_21, f4_at_22, f4_at_23, f4_at_24, f4_at_25, f4_at_26, f4_at_27, f4_at_28, f4_at_29, f4_at_30, f4_at_31, f4_at_32, f4_at_33, f4_at_34, f4_at_35, f4_at_36, f4_at_37]
    rfl
  · simp only [List.map_cons, List.map_nil, List.getElem?_set, Nat.reduceEqDiff, if_false, if_true, reduceIte, f4_len, Nat.reduceLT, f4_at_0, f4_at_1, f4_at_2, f4_at_3, f4_at_4, f4_at_5, f4_at_6, f4_at_7, f4_at_8, f4_at_9, f4_at_10, f4_at_11, f4_at_12, f4_at_13, f4_at_14, f4_at_15, f4_at_16, f4_at_17, f4_at_18, f4_at_19, f4_at_20, f4_at_21, f4_at_22, f4_at_23, f4_at_24, f4_at_25, f4_at_26, f4_at_27, f4_at_28, f4_at_29, f4_at_30, f4_at_31, f4_at_32, f4_at_33, f4_at_34, f4_at_35, f4_at_36, f4_at_37]
    rfl
set_option maxRecDepth 20000 in
set_option maxHeartbeats 4000000 in
theorem mk_26 (hp s1 : Bool) (m : HM) (o : Option am_C) (k : Mu) : am_put [26, 27, 28, 29, 30, 31] ((fX3 k).map (Option.map (am_rn [26, 27, 28, 29, 30, 31]))) (List.set (fX4 hp false s1 m) 26 o) = List.set (fX4 hp true s1 (m.1, m.2.1, m.2.2.1, m.2.2.2.1, k, m.2.2.2.2.2)) 7 (some (.inr (.inl [none, cond s1 (some 32) none]))) := by
  refine am_put_eq [0, 1, 2, 3, 4, 5, 6, 7, 8, 9, 10, 11, 12, 13, 14, 15, 16, 17, 18, 19, 20, 21, 22, 23, 24, 25, 32, 33, 34, 35, 36, 37] rfl rfl (by rw [List.length_set, List.length_set]; rfl) rfl rfl ?_ ?_
  · simp only [List.map_cons, List.map_nil, List.getElem?_set, Nat.reduceEqDiff, if_false, if_true, reduceIte, f4_at_0, f4_at_1, f4_at_2, f4_at_3, f4_at_4, f4_at_5, f4_at_6, f4_at_7, f4_at_8, f4_at_9, f4_at_10, f4_at_11, f4_at_12, f4_at_13, f4_at_14, f4_at_15, f4_at_16, f4_at_17, f4_at_18, f4_at_19, f4_at_20, f4_at_21, f4_at_22, f4_at_23, f4_at_24, f4_at_25, f4_at_26, f4_at_27, f4_at_28, f4_at_29, f4_at_30, f4_at_31, f4_at_32, f4_at_33, f4_at_34, f4_at_35, f4_at_36, f4_at_37]
    rfl
  · simp only [List.map_cons, List.map_nil, List.getElem?_set, Nat.reduceEqDiff, if_false, if_true, reduceIte, f4_len, Nat.reduceLT, f4_at_0, f4_at_1, f4_at_2, f4_at_3, f4_at_4, f4_at_5, f4_at_6, f4_at_7, f4_at_8, f4_at_9, f4_at_10, f4_at_11, f4_at_12, f4_at_13, f4_at_14, f4_at_15, f4_at_16, f4_at_17, f4_at_18, f4_at_19, f4_at_20, f4_at_21, f4_at_22, f4_at_23, f4_at_24, f4_at_25, f4_at_26, f4_at_27, f4_at_28, f4_at_29, f4_at_30, f4_at_31, f4_at_32, f4_at_33, f4_at_34, f4_at_35, f4_at_36, f4_at_37]
    rfl
set_option maxRecDepth 20000 in
set_option maxHeartbeats 4000000 in
theorem mk_32 (hp s0 : Bool) (m : HM) (o : Option am_C) (k : Mu) : am_put [32, 33, 34, 35, 36, 37] ((fX3 k).map (Option.map (am_rn [32, 33, 34, 35, 36, 37]))) (List.set (fX4 hp s0 false m) 32 o) = List.set (fX4 hp s0 true (m.1, m.2.1, m.2.2.1, m.2.2.2.1, m.2.2.2.2.1, k)) 7 (some (.inr (.inl [cond s0 (some 26) none, none]))) := by
  refine am_put_eq [0, 1, 2, 3, 4, 5, 6, 7, 8, 9, 10, 11, 12, 13, 14, 15, 16, 17, 18, 19, 20, 21, 22, 23, 24, 25, 26, 27, 28, 29, 30, 31] rfl rfl (by rw [List.length_set, List.length_set]; rfl) rfl rfl ?_ ?_
  · simp only [List.map_cons, List.map_nil, List.getElem?_set, Nat.reduceEqDiff, if_false, if_true, reduceIte, f4_at_0, f4_at_1, f4_at_2, f4_at_3, f4_at_4, f4_at_5, f4_at_6, f4_at_7, f4_at_8, f4_at_9, f4_at_10, f4_at_11, f4_at_12, f4_at_13, f4_at_14, f4_at_15, f4_at_16, f4_at_17, f4_at_18, f4_at_19, f4_at_20, f4_at_21, f4_at_22, f4_at_23, f4_at_24, f4_at_25, f4_at_26, f4_at_27, f4_at_28, f4_at_29, f4_at_30, f4_at_31, f4_at_32, f4_at_33, f4_at_34, f4_at_35, f4_at_36, f4_at_37]
    rfl
  · simp only [List.map_cons, List.map_nil, List.getElem?_set, Nat.reduceEqDiff, if_false, if_true, reduceIte, f4_len, Nat.reduceLT, f4_at_0, f4_at_1, f4_at_2, f4_at_3, f4_at_4, f4_at_5, f4_at_6, f4_at_7, f4_at_8, f4_at_9, f4_at_10, f4_at_11, f4_at_12, f4_at_13, f4_at_14, f4_at_15, f4_at_16, f4_at_17, f4_at_18, f4_at_19, f4_at_20, f4_at_21, f4_at_22, f4_at_23, f4_at_24, f4_at_25, f4_at_26, f4_at_27, f4_at_28, f4_at_29, f4_at_30, f4_at_31, f4_at_32, f4_at_33, f4_at_34, f4_at_35, f4_at_36, f4_at_37]
    rfl
