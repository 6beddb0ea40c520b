def fX0 (m : Mu) : am_H := [some (.inr (.inr (0, [.ref 1, .int (m 2 1)]))), some (.inl (0, 40, m 0))]
theorem fam_X0 : am_fam fX0 2 := fun m => ⟨rfl, rfl, rfl⟩
def fX2 (m : Mu) : am_H := [some (.inr (.inr (2, [.ref 1, .int (m 3 1), .int (m 3 2)]))), some (.inl (0, 4032, m 0))]
theorem fam_X2 : am_fam fX2 2 := fun m => ⟨rfl, rfl, rfl⟩
def fX3 (m : Mu) : am_H := [some (.inr (.inr (3, [.ref 1, .ref 2, .ref 3, .ref 4, .ref 5, .int (m 8 5), .int (m 8 6), .int (m 8 7)]))), some (.inl (0, 13, m 0)), some (.inl (0, 13, m 1)), some (.inl (0, 13, m 2)), some (.inl (0, 104, m 3)), some (.inl (0, 8, m 4))]
theorem fam_X3 : am_fam fX3 6 := fun m => ⟨rfl, rfl, rfl⟩
def fX1 (m : Mu) : am_H := [some (.inr (.inr (1, [.ref 1, .ref 7, .ref 8, .ref 9, .ref 10, .ref 11, .ref 12, .ref 14, .int (m 13 8), .int (m 13 9), .int (m 13 10), .int (m 13 11), .int (m 13 12)]))), some (.inr (.inr (3, [.ref 2, .ref 3, .ref 4, .ref 5, .ref 6, .int (m 28 5), .int (m 28 6), .int (m 28 7)]))), some (.inl (0, 13, m 20)), some (.inl (0, 13, m 21)), some (.inl (0, 13, m 22)), some (.inl (0, 104, m 23)), some (.inl (0, 8, m 24)), some (.inl (0, 6, m 1)), some (.inl (0, 3, m 2)), some (.inl (0, 14, m 3)), some (.inl (0, 14, m 4)), some (.inl (0, 4032, m 5)), some (.inr (.inr (2, [.ref 13, .int (m 33 1), .int (m 33 2)]))), some (.inl (0, 4032, m 30)), some (.inr (.inr (2, [.ref 15, .int (m 43 1), .int (m 43 2)]))), some (.inl (0, 4032, m 40))]
theorem fam_X1 : am_fam fX1 16 := fun m => ⟨rfl, rfl, rfl⟩
def fX5 (m : Mu) : am_H := [some (.inr (.inr (5, [.ref 1, .ref 2, .ref 3, .int (m 32 3), .int (m 32 4), .ref 4, .int (m 32 6), .int (m 32 7), .ref 5, .ref 6, .int (m 32 10), .ref 7, .ref 8, .int (m 32 13), .ref 9, .ref 10, .ref 11, .ref 12, .int (m 32 18), .ref 13, .ref 14, .ref 15, .ref 16, .ref 17, .ref 18, .ref 19, .ref 20, .ref 21, .ref 22, .int (m 32 29), .int (m 32 30), .int (m 32 31)]))), some (.inl (0, 148, m 0)), some (.inl (0, 296, m 1)), some (.inl (1, 2, m 2)), some (.inl (0, 40, m 5)), some (.inl (0, 24, m 8)), some (.inl (0, 64, m 9)), some (.inl (0, 336, m 11)), some (.inl (0, 15625, m 12)), some (.inl (0, 6, m 14)), some (.inl (0, 13, m 15)), some (.inl (0, 24, m 16)), some (.inl (0, 6, m 17)), some (.inl (0, 4032, m 19)), some (.inl (0, 4032, m 20)), some (.inl (1, 4032, m 21)), some (.inl (0, 4032, m 22)), some (.inl (0, 4032, m 23)), some (.inl (0, 4032, m 24)), some (.inl (0, 4032, m 25)), some (.inl (0, 4032, m 26)), some (.inl (0, 4032, m 27)), some (.inl (0, 4032, m 28))]
theorem fam_X5 : am_fam fX5 23 := fun m => ⟨rfl, rfl, rfl⟩
def fX4 (hp s0 s1 : Bool) (m : Mu) : am_H := [some (.inr (.inr (4, [.ref 1, .ref 7, .ref 8, cond hp (.ref 10) .null, .int (m 5 4)]))), some (.inr (.inr (3, [.ref 2, .ref 3, .ref 4, .ref 5, .ref 6, .int (m 18 5), .int (m 18 6), .int (m 18 7)]))), some (.inl (0, 13, m 10)), some (.inl (0, 13, m 11)), some (.inl (0, 13, m 12)), some (.inl (0, 104, m 13)), some (.inl (0, 8, m 14)), some (.inr (.inl [cond s0 (some 26) none, cond s1 (some 32) none])), some (.inr (.inr (0, [.ref 9, .int (m 22 1)]))), some (.inl (0, 40, m 20)), cond hp (some (.inr (.inr (1, [.ref 11, .ref 17, .ref 18, .ref 19, .ref 20, .ref 21, .ref 22, .ref 24, .int (m 63 8), .int (m 63 9), .int (m 63 10), .int (m 63 11), .int (m 63 12)])))) none, cond hp (some (.inr (.inr (3, [.ref 12, .ref 13, .ref 14, .ref 15, .ref 16, .int (m 78 5), .int (m 78 6), .int (m 78 7)])))) none, cond hp (some (.inl (0, 13, m 70))) none, cond hp (some (.inl (0, 13, m 71))) none, cond hp (some (.inl (0, 13, m 72))) none, cond hp (some (.inl (0, 104, m 73))) none, cond hp (some (.inl (0, 8, m 74))) none, cond hp (some (.inl (0, 6, m 51))) none, cond hp (some (.inl (0, 3, m 52))) none, cond hp (some (.inl (0, 14, m 53))) none, cond hp (some (.inl (0, 14, m 54))) none, cond hp (some (.inl (0, 4032, m 55))) none, cond hp (some (.inr (.inr (2, [.ref 23, .int (m 83 1), .int (m 83 2)])))) none, cond hp (some (.inl (0, 4032, m 80))) none, cond hp (some (.inr (.inr (2, [.ref 25, .int (m 93 1), .int (m 93 2)])))) none, cond hp (some (.inl (0, 4032, m 90))) none, cond s0 (some (.inr (.inr (3, [.ref 27, .ref 28, .ref 29, .ref 30, .ref 31, .int (m 38 5), .int (m 38 6), .int (m 38 7)])))) none, cond s0 (some (.inl (0, 13, m 30))) none, cond s0 (some (.inl (0, 13, m 31))) none, cond s0 (some (.inl (0, 13, m 32))) none, cond s0 (some (.inl (0, 104, m 33))) none, cond s0 (some (.inl (0, 8, m 34))) none, cond s1 (some (.inr (.inr (3, [.ref 33, .ref 34, .ref 35, .ref 36, .ref 37, .int (m 48 5), .int (m 48 6), .int (m 48 7)])))) none, cond s1 (some (.inl (0, 13, m 40))) none, cond s1 (some (.inl (0, 13, m 41))) none, cond s1 (some (.inl (0, 13, m 42))) none, cond s1 (some (.inl (0, 104, m 43))) none, cond s1 (some (.inl (0, 8, m 44))) none]
def mJ7_fill_53178 : am_M := (yJ7_fill_53178, cJ7_fill_53178, 4, none, 0, 0)
theorem pf_J7_fill_53178 : plainFor yJ7_fill_53178 = true := by decide +kernel
theorem ic_0 : Int32.ofInt 0 = 0 := by decide +kernel
theorem ic_1 : Int32.ofInt 1 = 1 := by decide +kernel
theorem pf_J6_bitCount_0f7a4 : plainFor yJ6_bitCount_0f7a4 = true := by decide +kernel
def mJ6_bitCount_0f7a4 : am_M := (yJ6_bitCount_0f7a4, cJ6_bitCount_0f7a4, 1, some .int, 0, 0)
theorem wd_514 : Cond.constant RJ6 265 1431655765 ∈ am_T := am_T_in 514 (by decide +kernel) (by decide +kernel)
theorem wd_515 : Cond.constant RJ6 266 858993459 ∈ am_T := am_T_in 515 (by decide +kernel) (by decide +kernel)
theorem ic_2 : Int32.ofInt 2 = 2 := by decide +kernel
theorem ic_4 : Int32.ofInt 4 = 4 := by decide +kernel
theorem wd_516 : Cond.constant RJ6 267 252645135 ∈ am_T := am_T_in 516 (by decide +kernel) (by decide +kernel)
theorem bc_8 : (Int8.ofInt 8).toInt32 = 8 := by decide +kernel
theorem bc_16 : (Int8.ofInt 16).toInt32 = 16 := by decide +kernel
theorem bc_63 : (Int8.ofInt 63).toInt32 = 63 := by decide +kernel
theorem pf_J9_floorMod_7cf53 : plainFor yJ9_floorMod_7cf53 = true := by decide +kernel
def mJ9_floorMod_7cf53 : am_M := (yJ9_floorMod_7cf53, cJ9_floorMod_7cf53, 3, some .int, 0, 0)
theorem pf_J9_abs_0f7a4 : plainFor yJ9_abs_0f7a4 = true := by decide +kernel
def mJ9_abs_0f7a4 : am_M := (yJ9_abs_0f7a4, cJ9_abs_0f7a4, 1, some .int, 0, 0)
theorem pf_J9_max_7cf53 : plainFor yJ9_max_7cf53 = true := by decide +kernel
def mJ9_max_7cf53 : am_M := (yJ9_max_7cf53, cJ9_max_7cf53, 2, some .int, 0, 0)
theorem pf_J9_min_7cf53 : plainFor yJ9_min_7cf53 = true := by decide +kernel
def mJ9_min_7cf53 : am_M := (yJ9_min_7cf53, cJ9_min_7cf53, 2, some .int, 0, 0)
theorem pn_X4 : plainName RX4 = true := by decide +kernel
theorem pf_X4_isPosition : plainFor yX4_isPosition = true := by unfold plainFor; rw [show plainName yX4_isPosition.cls = true from pn_X4]; rfl
def mX4_isPosition : am_M := (yX4_isPosition, cX4_isPosition, 1, some .boolean, 0, 0)
theorem bc_12 : (Int8.ofInt 12).toInt32 = 12 := by decide +kernel
theorem pf_X4_isEnd : plainFor yX4_isEnd = true := by unfold plainFor; rw [show plainName yX4_isEnd.cls = true from pn_X4]; rfl
def mX4_isEnd : am_M := (yX4_isEnd, cX4_isEnd, 1, some .boolean, 0, 0)
theorem pf_X4_isSlot : plainFor yX4_isSlot = true := by unfold plainFor; rw [show plainName yX4_isSlot.cls = true from pn_X4]; rfl
def mX4_isSlot : am_M := (yX4_isSlot, cX4_isSlot, 1, some .boolean, 0, 0)
theorem pf_X4_endOf : plainFor yX4_endOf = true := by unfold plainFor; rw [show plainName yX4_endOf.cls = true from pn_X4]; rfl
def mX4_endOf : am_M := (yX4_endOf, cX4_endOf, 1, some .int, 0, 0)
theorem bc_10 : (Int8.ofInt 10).toInt32 = 10 := by decide +kernel
theorem bc_30 : (Int8.ofInt 30).toInt32 = 30 := by decide +kernel
theorem pf_X4_reverseOf : plainFor yX4_reverseOf = true := by unfold plainFor; rw [show plainName yX4_reverseOf.cls = true from pn_X4]; rfl
def mX4_reverseOf : am_M := (yX4_reverseOf, cX4_reverseOf, 1, some .int, 0, 0)
theorem bc_20 : (Int8.ofInt 20).toInt32 = 20 := by decide +kernel
theorem pn_X0 : plainName RX0 = true := by decide +kernel
theorem pf_X0_append : plainFor yX0_append = true := by unfold plainFor; rw [show plainName yX0_append.cls = true from pn_X0]; rfl
def mX0_append : am_M := (yX0_append, cX0_append, 3, none, 0, 0)
theorem cl_X0 : am_cls 0 RX0 TX0 2 tyX0 := ⟨rfl, am_sub_r _ [119, 121] (by decide +kernel) (by decide +kernel), tyX0_ok, nmX0⟩
theorem wd_117 : Cond.fieldLink RX0 15 RX0 "count" "I" ∈ am_T := am_T_in 117 (by decide +kernel) (by decide +kernel)
theorem fl_X0_15 : am_fl RX0 15 0 1 := ⟨RX0, TX0, 2, tyX0, cl_X0, Nat.le_of_ble_eq_true rfl, rfl, Or.inl wd_117⟩
theorem bc_40 : (Int8.ofInt 40).toInt32 = 40 := by decide +kernel
theorem wd_116 : Cond.fieldLink RX0 9 RX0 "codes" "[I" ∈ am_T := am_T_in 116 (by decide +kernel) (by decide +kernel)
theorem fl_X0_9 : am_fl RX0 9 0 0 := ⟨RX0, TX0, 2, tyX0, cl_X0, Nat.le_of_ble_eq_true rfl, rfl, Or.inl wd_116⟩
theorem fp_X0_15 : am_fp RX0 15 0 1 .int false := ⟨RX0, TX0, 2, tyX0, cl_X0, Nat.le_of_ble_eq_true rfl, rfl, rfl, rfl, Or.inl ⟨wd_117, fun _ => rfl⟩⟩
theorem bc_39 : (Int8.ofInt 39).toInt32 = 39 := by decide +kernel
theorem pf_X0_forgetAll : plainFor yX0_forgetAll = true := by unfold plainFor; rw [show plainName yX0_forgetAll.cls = true from pn_X0]; rfl
def mX0_forgetAll : am_M := (yX0_forgetAll, cX0_forgetAll, 1, none, 0, 0)
theorem pf_X0_latest : plainFor yX0_latest = true := by unfold plainFor; rw [show plainName yX0_latest.cls = true from pn_X0]; rfl
def mX0_latest : am_M := (yX0_latest, cX0_latest, 2, some .int, 0, 0)
theorem bc_m11 : (Int8.ofInt (-11)).toInt32 = (-11) := by decide +kernel
theorem pf_X0_removeLatest : plainFor yX0_removeLatest = true := by unfold plainFor; rw [show plainName yX0_removeLatest.cls = true from pn_X0]; rfl
def mX0_removeLatest : am_M := (yX0_removeLatest, cX0_removeLatest, 2, some .int, 1, 21)
theorem pl_X0 : RX0 ≠ "java/lang/invoke/MethodHandle" ∧ RX0 ≠ "java/lang/invoke/VarHandle" := by decide +kernel
theorem pd_X0_latest : (parseMethodDescriptor yX0_latest.desc).map (fun d => d.parameters.length) = some 1 := by decide +kernel
theorem wd_351 : Cond.code yX0_latest cX0_latest 2 (some .int) ∈ am_T := am_T_in 351 (by decide +kernel) (by decide +kernel)
theorem wd_57 : Cond.initialized RX0 ∈ am_T := am_T_in 57 (by decide +kernel) (by decide +kernel)
theorem cb_X0_removeLatest_X0_latest (i : Nat) : am_cb mX0_removeLatest i mX0_latest 1 := ⟨wd_351, wd_57, ⟨pl_X0.1, pl_X0.2, pd_X0_latest⟩, Nat.le_of_ble_eq_true rfl, Nat.le_of_ble_eq_true rfl⟩
theorem wd_348 : Cond.methodLink RX0 19 yX0_latest ∈ am_T := am_T_in 348 (by decide +kernel) (by decide +kernel)
theorem wd_349 : Cond.instanceMethod yX0_latest ∈ am_T := am_T_in 349 (by decide +kernel) (by decide +kernel)
theorem wd_350 : Cond.selects RX0 yX0_latest yX0_latest ∈ am_T := am_T_in 350 (by decide +kernel) (by decide +kernel)
theorem q_X0_removeLatest_19 : am_qV mX0_removeLatest 19 mX0_latest 1 := ⟨cb_X0_removeLatest_X0_latest 19, wd_348, wd_349, wd_350⟩
theorem pn_X2 : plainName RX2 = true := by decide +kernel
theorem pf_X2_reset : plainFor yX2_reset = true := by unfold plainFor; rw [show plainName yX2_reset.cls = true from pn_X2]; rfl
def mX2_reset : am_M := (yX2_reset, cX2_reset, 1, none, 0, 0)
theorem cl_X2 : am_cls 2 RX2 TX2 3 tyX2 := ⟨rfl, am_sub_r _ [393, 395, 397] (by decide +kernel) (by decide +kernel), tyX2_ok, nmX2⟩
theorem wd_391 : Cond.fieldLink RX2 15 RX2 "head" "I" ∈ am_T := am_T_in 391 (by decide +kernel) (by decide +kernel)
theorem fp_X2_15 : am_fp RX2 15 2 1 .int false := ⟨RX2, TX2, 3, tyX2, cl_X2, Nat.le_of_ble_eq_true rfl, rfl, rfl, rfl, Or.inl ⟨wd_391, fun _ => rfl⟩⟩
theorem wd_392 : Cond.fieldLink RX2 19 RX2 "tail" "I" ∈ am_T := am_T_in 392 (by decide +kernel) (by decide +kernel)
theorem fp_X2_19 : am_fp RX2 19 2 2 .int false := ⟨RX2, TX2, 3, tyX2, cl_X2, Nat.le_of_ble_eq_true rfl, rfl, rfl, rfl, Or.inl ⟨wd_392, fun _ => rfl⟩⟩
theorem pf_X2_add : plainFor yX2_add = true := by unfold plainFor; rw [show plainName yX2_add.cls = true from pn_X2]; rfl
def mX2_add : am_M := (yX2_add, cX2_add, 2, none, 0, 0)
theorem fl_X2_19 : am_fl RX2 19 2 2 := ⟨RX2, TX2, 3, tyX2, cl_X2, Nat.le_of_ble_eq_true rfl, rfl, Or.inl wd_392⟩
theorem sc_4032 : (Int16.ofInt 4032).toInt32 = 4032 := by decide +kernel
theorem wd_390 : Cond.fieldLink RX2 9 RX2 "states" "[I" ∈ am_T := am_T_in 390 (by decide +kernel) (by decide +kernel)
theorem fl_X2_9 : am_fl RX2 9 2 0 := ⟨RX2, TX2, 3, tyX2, cl_X2, Nat.le_of_ble_eq_true rfl, rfl, Or.inl wd_390⟩
theorem pf_X2_first : plainFor yX2_first = true := by unfold plainFor; rw [show plainName yX2_first.cls = true from pn_X2]; rfl
def mX2_first : am_M := (yX2_first, cX2_first, 1, some .int, 0, 0)
theorem fl_X2_15 : am_fl RX2 15 2 1 := ⟨RX2, TX2, 3, tyX2, cl_X2, Nat.le_of_ble_eq_true rfl, rfl, Or.inl wd_391⟩
theorem pf_X2_removeFirst : plainFor yX2_removeFirst = true := by unfold plainFor; rw [show plainName yX2_removeFirst.cls = true from pn_X2]; rfl
def mX2_removeFirst : am_M := (yX2_removeFirst, cX2_removeFirst, 2, some .int, 1, 20)
theorem pl_X2 : RX2 ≠ "java/lang/invoke/MethodHandle" ∧ RX2 ≠ "java/lang/invoke/VarHandle" := by decide +kernel
theorem pd_X2_first : (parseMethodDescriptor yX2_first.desc).map (fun d => d.parameters.length) = some 0 := by decide +kernel
theorem wd_527 : Cond.code yX2_first cX2_first 1 (some .int) ∈ am_T := am_T_in 527 (by decide +kernel) (by decide +kernel)
theorem wd_61 : Cond.initialized RX2 ∈ am_T := am_T_in 61 (by decide +kernel) (by decide +kernel)
theorem cb_X2_removeFirst_X2_first (i : Nat) : am_cb mX2_removeFirst i mX2_first 0 := ⟨wd_527, wd_61, ⟨pl_X2.1, pl_X2.2, pd_X2_first⟩, Nat.le_of_ble_eq_true rfl, Nat.le_of_ble_eq_true rfl⟩
theorem wd_536 : Cond.methodLink RX2 22 yX2_first ∈ am_T := am_T_in 536 (by decide +kernel) (by decide +kernel)
theorem wd_525 : Cond.instanceMethod yX2_first ∈ am_T := am_T_in 525 (by decide +kernel) (by decide +kernel)
theorem wd_526 : Cond.selects RX2 yX2_first yX2_first ∈ am_T := am_T_in 526 (by decide +kernel) (by decide +kernel)
theorem q_X2_removeFirst_22 : am_qV mX2_removeFirst 22 mX2_first 0 := ⟨cb_X2_removeFirst_X2_first 22, wd_536, wd_525, wd_526⟩
theorem pn_X3 : plainName RX3 = true := by decide +kernel
theorem pf_X3_isLocomotive : plainFor yX3_isLocomotive = true := by unfold plainFor; rw [show plainName yX3_isLocomotive.cls = true from pn_X3]; rfl
def mX3_isLocomotive : am_M := (yX3_isLocomotive, cX3_isLocomotive, 2, some .boolean, 0, 0)
theorem cl_X3 : am_cls 3 RX3 TX3 8 tyX3 := ⟨rfl, am_sub_r _ [91, 93, 95, 97, 99, 101, 103, 105] (by decide +kernel) (by decide +kernel), tyX3_ok, nmX3⟩
theorem wd_84 : Cond.fieldLink RX3 33 RX3 "locomotiveCount" "I" ∈ am_T := am_T_in 84 (by decide +kernel) (by decide +kernel)
theorem fl_X3_33 : am_fl RX3 33 3 5 := ⟨RX3, TX3, 8, tyX3, cl_X3, Nat.le_of_ble_eq_true rfl, rfl, Or.inl wd_84⟩
theorem pf_X3_isAlive : plainFor yX3_isAlive = true := by unfold plainFor; rw [show plainName yX3_isAlive.cls = true from pn_X3]; rfl
def mX3_isAlive : am_M := (yX3_isAlive, cX3_isAlive, 2, some .boolean, 1, 21)
theorem pl_X3 : RX3 ≠ "java/lang/invoke/MethodHandle" ∧ RX3 ≠ "java/lang/invoke/VarHandle" := by decide +kernel
theorem pd_X3_isLocomotive : (parseMethodDescriptor yX3_isLocomotive.desc).map (fun d => d.parameters.length) = some 1 := by decide +kernel
theorem wd_200 : Cond.code yX3_isLocomotive cX3_isLocomotive 2 (some .boolean) ∈ am_T := am_T_in 200 (by decide +kernel) (by decide +kernel)
theorem wd_56 : Cond.initialized RX3 ∈ am_T := am_T_in 56 (by decide +kernel) (by decide +kernel)
theorem cb_X3_isAlive_X3_isLocomotive (i : Nat) : am_cb mX3_isAlive i mX3_isLocomotive 1 := ⟨wd_200, wd_56, ⟨pl_X3.1, pl_X3.2, pd_X3_isLocomotive⟩, Nat.le_of_ble_eq_true rfl, Nat.le_of_ble_eq_true rfl⟩
theorem wd_197 : Cond.methodLink RX3 43 yX3_isLocomotive ∈ am_T := am_T_in 197 (by decide +kernel) (by decide +kernel)
theorem wd_198 : Cond.instanceMethod yX3_isLocomotive ∈ am_T := am_T_in 198 (by decide +kernel) (by decide +kernel)
theorem wd_199 : Cond.selects RX3 yX3_isLocomotive yX3_isLocomotive ∈ am_T := am_T_in 199 (by decide +kernel) (by decide +kernel)
theorem q_X3_isAlive_43 : am_qV mX3_isAlive 43 mX3_isLocomotive 1 := ⟨cb_X3_isAlive_X3_isLocomotive 43, wd_197, wd_198, wd_199⟩
theorem wd_87 : Cond.fieldLink RX3 37 RX3 "deadBits" "I" ∈ am_T := am_T_in 87 (by decide +kernel) (by decide +kernel)
theorem fl_X3_37 : am_fl RX3 37 3 6 := ⟨RX3, TX3, 8, tyX3, cl_X3, Nat.le_of_ble_eq_true rfl, rfl, Or.inl wd_87⟩
theorem pf_X3_sizeOf : plainFor yX3_sizeOf = true := by unfold plainFor; rw [show plainName yX3_sizeOf.cls = true from pn_X3]; rfl
def mX3_sizeOf : am_M := (yX3_sizeOf, cX3_sizeOf, 2, some .int, 0, 0)
theorem wd_83 : Cond.fieldLink RX3 24 RX3 "sizes" "[I" ∈ am_T := am_T_in 83 (by decide +kernel) (by decide +kernel)
theorem fl_X3_24 : am_fl RX3 24 3 4 := ⟨RX3, TX3, 8, tyX3, cl_X3, Nat.le_of_ble_eq_true rfl, rfl, Or.inl wd_83⟩
theorem pf_X3_lengthAt : plainFor yX3_lengthAt = true := by unfold plainFor; rw [show plainName yX3_lengthAt.cls = true from pn_X3]; rfl
def mX3_lengthAt : am_M := (yX3_lengthAt, cX3_lengthAt, 2, some .int, 0, 0)
theorem bc_13 : (Int8.ofInt 13).toInt32 = 13 := by decide +kernel
theorem wd_79 : Cond.fieldLink RX3 9 RX3 "lengths" "[I" ∈ am_T := am_T_in 79 (by decide +kernel) (by decide +kernel)
theorem fl_X3_9 : am_fl RX3 9 3 0 := ⟨RX3, TX3, 8, tyX3, cl_X3, Nat.le_of_ble_eq_true rfl, rfl, Or.inl wd_79⟩
theorem pf_X3_usedAt : plainFor yX3_usedAt = true := by unfold plainFor; rw [show plainName yX3_usedAt.cls = true from pn_X3]; rfl
def mX3_usedAt : am_M := (yX3_usedAt, cX3_usedAt, 2, some .int, 0, 0)
theorem wd_80 : Cond.fieldLink RX3 15 RX3 "used" "[I" ∈ am_T := am_T_in 80 (by decide +kernel) (by decide +kernel)
theorem fl_X3_15 : am_fl RX3 15 3 1 := ⟨RX3, TX3, 8, tyX3, cl_X3, Nat.le_of_ble_eq_true rfl, rfl, Or.inl wd_80⟩
theorem pf_X3_freeAt : plainFor yX3_freeAt = true := by unfold plainFor; rw [show plainName yX3_freeAt.cls = true from pn_X3]; rfl
def mX3_freeAt : am_M := (yX3_freeAt, cX3_freeAt, 2, some .int, 1, 21)
theorem pd_X3_lengthAt : (parseMethodDescriptor yX3_lengthAt.desc).map (fun d => d.parameters.length) = some 1 := by decide +kernel
theorem wd_158 : Cond.code yX3_lengthAt cX3_lengthAt 2 (some .int) ∈ am_T := am_T_in 158 (by decide +kernel) (by decide +kernel)
theorem cb_X3_freeAt_X3_lengthAt (i : Nat) : am_cb mX3_freeAt i mX3_lengthAt 1 := ⟨wd_158, wd_56, ⟨pl_X3.1, pl_X3.2, pd_X3_lengthAt⟩, Nat.le_of_ble_eq_true rfl, Nat.le_of_ble_eq_true rfl⟩
theorem wd_187 : Cond.methodLink RX3 47 yX3_lengthAt ∈ am_T := am_T_in 187 (by decide +kernel) (by decide +kernel)
theorem wd_156 : Cond.instanceMethod yX3_lengthAt ∈ am_T := am_T_in 156 (by decide +kernel) (by decide +kernel)
theorem wd_157 : Cond.selects RX3 yX3_lengthAt yX3_lengthAt ∈ am_T := am_T_in 157 (by decide +kernel) (by decide +kernel)
theorem q_X3_freeAt_47 : am_qV mX3_freeAt 47 mX3_lengthAt 1 := ⟨cb_X3_freeAt_X3_lengthAt 47, wd_187, wd_156, wd_157⟩
theorem pd_X3_usedAt : (parseMethodDescriptor yX3_usedAt.desc).map (fun d => d.parameters.length) = some 1 := by decide +kernel
theorem wd_154 : Cond.code yX3_usedAt cX3_usedAt 2 (some .int) ∈ am_T := am_T_in 154 (by decide +kernel) (by decide +kernel)
theorem cb_X3_freeAt_X3_usedAt (i : Nat) : am_cb mX3_freeAt i mX3_usedAt 1 := ⟨wd_154, wd_56, ⟨pl_X3.1, pl_X3.2, pd_X3_usedAt⟩, Nat.le_of_ble_eq_true rfl, Nat.le_of_ble_eq_true rfl⟩
theorem wd_188 : Cond.methodLink RX3 51 yX3_usedAt ∈ am_T := am_T_in 188 (by decide +kernel) (by decide +kernel)
theorem wd_152 : Cond.instanceMethod yX3_usedAt ∈ am_T := am_T_in 152 (by decide +kernel) (by decide +kernel)
theorem wd_153 : Cond.selects RX3 yX3_usedAt yX3_usedAt ∈ am_T := am_T_in 153 (by decide +kernel) (by decide +kernel)
theorem q_X3_freeAt_51 : am_qV mX3_freeAt 51 mX3_usedAt 1 := ⟨cb_X3_freeAt_X3_usedAt 51, wd_188, wd_152, wd_153⟩
theorem pf_X3_countAt : plainFor yX3_countAt = true := by unfold plainFor; rw [show plainName yX3_countAt.cls = true from pn_X3]; rfl
def mX3_countAt : am_M := (yX3_countAt, cX3_countAt, 2, some .int, 0, 0)
theorem wd_81 : Cond.fieldLink RX3 18 RX3 "counts" "[I" ∈ am_T := am_T_in 81 (by decide +kernel) (by decide +kernel)
theorem fl_X3_18 : am_fl RX3 18 3 2 := ⟨RX3, TX3, 8, tyX3, cl_X3, Nat.le_of_ble_eq_true rfl, rfl, Or.inl wd_81⟩
theorem pf_X3_locomotiveAt : plainFor yX3_locomotiveAt = true := by unfold plainFor; rw [show plainName yX3_locomotiveAt.cls = true from pn_X3]; rfl
def mX3_locomotiveAt : am_M := (yX3_locomotiveAt, cX3_locomotiveAt, 3, some .int, 0, 0)
theorem wd_82 : Cond.fieldLink RX3 21 RX3 "rows" "[I" ∈ am_T := am_T_in 82 (by decide +kernel) (by decide +kernel)
theorem fl_X3_21 : am_fl RX3 21 3 3 := ⟨RX3, TX3, 8, tyX3, cl_X3, Nat.le_of_ble_eq_true rfl, rfl, Or.inl wd_82⟩
theorem pf_X3_indexIn : plainFor yX3_indexIn = true := by unfold plainFor; rw [show plainName yX3_indexIn.cls = true from pn_X3]; rfl
def mX3_indexIn : am_M := (yX3_indexIn, cX3_indexIn, 5, some .int, 1, 22)
theorem pd_X3_countAt : (parseMethodDescriptor yX3_countAt.desc).map (fun d => d.parameters.length) = some 1 := by decide +kernel
theorem wd_208 : Cond.code yX3_countAt cX3_countAt 2 (some .int) ∈ am_T := am_T_in 208 (by decide +kernel) (by decide +kernel)
theorem cb_X3_indexIn_X3_countAt (i : Nat) : am_cb mX3_indexIn i mX3_countAt 1 := ⟨wd_208, wd_56, ⟨pl_X3.1, pl_X3.2, pd_X3_countAt⟩, Nat.le_of_ble_eq_true rfl, Nat.le_of_ble_eq_true rfl⟩
theorem wd_205 : Cond.methodLink RX3 58 yX3_countAt ∈ am_T := am_T_in 205 (by decide +kernel) (by decide +kernel)
theorem wd_206 : Cond.instanceMethod yX3_countAt ∈ am_T := am_T_in 206 (by decide +kernel) (by decide +kernel)
theorem wd_207 : Cond.selects RX3 yX3_countAt yX3_countAt ∈ am_T := am_T_in 207 (by decide +kernel) (by decide +kernel)
theorem q_X3_indexIn_58 : am_qV mX3_indexIn 58 mX3_countAt 1 := ⟨cb_X3_indexIn_X3_countAt 58, wd_205, wd_206, wd_207⟩
theorem pd_X3_locomotiveAt : (parseMethodDescriptor yX3_locomotiveAt.desc).map (fun d => d.parameters.length) = some 2 := by decide +kernel
theorem wd_232 : Cond.code yX3_locomotiveAt cX3_locomotiveAt 3 (some .int) ∈ am_T := am_T_in 232 (by decide +kernel) (by decide +kernel)
theorem cb_X3_indexIn_X3_locomotiveAt (i : Nat) : am_cb mX3_indexIn i mX3_locomotiveAt 2 := ⟨wd_232, wd_56, ⟨pl_X3.1, pl_X3.2, pd_X3_locomotiveAt⟩, Nat.le_of_ble_eq_true rfl, Nat.le_of_ble_eq_true rfl⟩
theorem wd_229 : Cond.methodLink RX3 61 yX3_locomotiveAt ∈ am_T := am_T_in 229 (by decide +kernel) (by decide +kernel)
theorem wd_230 : Cond.instanceMethod yX3_locomotiveAt ∈ am_T := am_T_in 230 (by decide +kernel) (by decide +kernel)
theorem wd_231 : Cond.selects RX3 yX3_locomotiveAt yX3_locomotiveAt ∈ am_T := am_T_in 231 (by decide +kernel) (by decide +kernel)
theorem q_X3_indexIn_61 : am_qV mX3_indexIn 61 mX3_locomotiveAt 2 := ⟨cb_X3_indexIn_X3_locomotiveAt 61, wd_229, wd_230, wd_231⟩
theorem pf_X3_placeOf : plainFor yX3_placeOf = true := by unfold plainFor; rw [show plainName yX3_placeOf.cls = true from pn_X3]; rfl
def mX3_placeOf : am_M := (yX3_placeOf, cX3_placeOf, 3, some .int, 2, 46)
theorem pd_X3_indexIn : (parseMethodDescriptor yX3_indexIn.desc).map (fun d => d.parameters.length) = some 2 := by decide +kernel
theorem wd_228 : Cond.code yX3_indexIn cX3_indexIn 5 (some .int) ∈ am_T := am_T_in 228 (by decide +kernel) (by decide +kernel)
theorem cb_X3_placeOf_X3_indexIn (i : Nat) : am_cb mX3_placeOf i mX3_indexIn 2 := ⟨wd_228, wd_56, ⟨pl_X3.1, pl_X3.2, pd_X3_indexIn⟩, Nat.le_of_ble_eq_true rfl, Nat.le_of_ble_eq_true rfl⟩
theorem wd_225 : Cond.methodLink RX3 54 yX3_indexIn ∈ am_T := am_T_in 225 (by decide +kernel) (by decide +kernel)
theorem wd_226 : Cond.instanceMethod yX3_indexIn ∈ am_T := am_T_in 226 (by decide +kernel) (by decide +kernel)
theorem wd_227 : Cond.selects RX3 yX3_indexIn yX3_indexIn ∈ am_T := am_T_in 227 (by decide +kernel) (by decide +kernel)
theorem q_X3_placeOf_54 : am_qV mX3_placeOf 54 mX3_indexIn 2 := ⟨cb_X3_placeOf_X3_indexIn 54, wd_225, wd_226, wd_227⟩
theorem pf_X3_trackCount : plainFor yX3_trackCount = true := by unfold plainFor; rw [show plainName yX3_trackCount.cls = true from pn_X3]; rfl
def mX3_trackCount : am_M := (yX3_trackCount, cX3_trackCount, 3, some .int, 0, 0)
theorem pf_X3_positionAt : plainFor yX3_positionAt = true := by unfold plainFor; rw [show plainName yX3_positionAt.cls = true from pn_X3]; rfl
def mX3_positionAt : am_M := (yX3_positionAt, cX3_positionAt, 2, some .int, 0, 0)
theorem wd_88 : Cond.fieldLink RX3 40 RX3 "endA" "I" ∈ am_T := am_T_in 88 (by decide +kernel) (by decide +kernel)
theorem fl_X3_40 : am_fl RX3 40 3 7 := ⟨RX3, TX3, 8, tyX3, cl_X3, Nat.le_of_ble_eq_true rfl, rfl, Or.inl wd_88⟩
theorem bc_6 : (Int8.ofInt 6).toInt32 = 6 := by decide +kernel
theorem nz_12 : ¬ (12 : Int32) = 0 := by decide +kernel
theorem pf_X3_setLength : plainFor yX3_setLength = true := by unfold plainFor; rw [show plainName yX3_setLength.cls = true from pn_X3]; rfl
def mX3_setLength : am_M := (yX3_setLength, cX3_setLength, 3, none, 0, 0)
theorem pf_X3_markDead : plainFor yX3_markDead = true := by unfold plainFor; rw [show plainName yX3_markDead.cls = true from pn_X3]; rfl
def mX3_markDead : am_M := (yX3_markDead, cX3_markDead, 4, none, 1, 21)
theorem cb_X3_markDead_X3_isLocomotive (i : Nat) : am_cb mX3_markDead i mX3_isLocomotive 1 := ⟨wd_200, wd_56, ⟨pl_X3.1, pl_X3.2, pd_X3_isLocomotive⟩, Nat.le_of_ble_eq_true rfl, Nat.le_of_ble_eq_true rfl⟩
theorem q_X3_markDead_43 : am_qV mX3_markDead 43 mX3_isLocomotive 1 := ⟨cb_X3_markDead_X3_isLocomotive 43, wd_197, wd_198, wd_199⟩
theorem ic_m1 : Int32.ofInt (-1) = (-1) := by decide +kernel
theorem fp_X3_37 : am_fp RX3 37 3 6 .int false := ⟨RX3, TX3, 8, tyX3, cl_X3, Nat.le_of_ble_eq_true rfl, rfl, rfl, rfl, Or.inl ⟨wd_87, fun _ => rfl⟩⟩
theorem pf_X3_putIn : plainFor yX3_putIn = true := by unfold plainFor; rw [show plainName yX3_putIn.cls = true from pn_X3]; rfl
def mX3_putIn : am_M := (yX3_putIn, cX3_putIn, 7, none, 1, 21)
theorem cb_X3_putIn_X3_countAt (i : Nat) : am_cb mX3_putIn i mX3_countAt 1 := ⟨wd_208, wd_56, ⟨pl_X3.1, pl_X3.2, pd_X3_countAt⟩, Nat.le_of_ble_eq_true rfl, Nat.le_of_ble_eq_true rfl⟩
theorem q_X3_putIn_58 : am_qV mX3_putIn 58 mX3_countAt 1 := ⟨cb_X3_putIn_X3_countAt 58, wd_205, wd_206, wd_207⟩
theorem pd_X3_sizeOf : (parseMethodDescriptor yX3_sizeOf.desc).map (fun d => d.parameters.length) = some 1 := by decide +kernel
theorem wd_212 : Cond.code yX3_sizeOf cX3_sizeOf 2 (some .int) ∈ am_T := am_T_in 212 (by decide +kernel) (by decide +kernel)
theorem cb_X3_putIn_X3_sizeOf (i : Nat) : am_cb mX3_putIn i mX3_sizeOf 1 := ⟨wd_212, wd_56, ⟨pl_X3.1, pl_X3.2, pd_X3_sizeOf⟩, Nat.le_of_ble_eq_true rfl, Nat.le_of_ble_eq_true rfl⟩
theorem wd_209 : Cond.methodLink RX3 78 yX3_sizeOf ∈ am_T := am_T_in 209 (by decide +kernel) (by decide +kernel)
theorem wd_210 : Cond.instanceMethod yX3_sizeOf ∈ am_T := am_T_in 210 (by decide +kernel) (by decide +kernel)
theorem wd_211 : Cond.selects RX3 yX3_sizeOf yX3_sizeOf ∈ am_T := am_T_in 211 (by decide +kernel) (by decide +kernel)
theorem q_X3_putIn_78 : am_qV mX3_putIn 78 mX3_sizeOf 1 := ⟨cb_X3_putIn_X3_sizeOf 78, wd_209, wd_210, wd_211⟩
theorem pf_X3_addFirst : plainFor yX3_addFirst = true := by unfold plainFor; rw [show plainName yX3_addFirst.cls = true from pn_X3]; rfl
def mX3_addFirst : am_M := (yX3_addFirst, cX3_addFirst, 4, some .int, 2, 47)
theorem bc_m9 : (Int8.ofInt (-9)).toInt32 = (-9) := by decide +kernel
theorem fp_X3_33 : am_fp RX3 33 3 5 .int false := ⟨RX3, TX3, 8, tyX3, cl_X3, Nat.le_of_ble_eq_true rfl, rfl, rfl, rfl, Or.inl ⟨wd_84, fun _ => rfl⟩⟩
theorem pd_X3_markDead : (parseMethodDescriptor yX3_markDead.desc).map (fun d => d.parameters.length) = some 2 := by decide +kernel
theorem wd_196 : Cond.code yX3_markDead cX3_markDead 4 none ∈ am_T := am_T_in 196 (by decide +kernel) (by decide +kernel)
theorem cb_X3_addFirst_X3_markDead (i : Nat) : am_cb mX3_addFirst i mX3_markDead 2 := ⟨wd_196, wd_56, ⟨pl_X3.1, pl_X3.2, pd_X3_markDead⟩, Nat.le_of_ble_eq_true rfl, Nat.le_of_ble_eq_true rfl⟩
theorem wd_193 : Cond.methodLink RX3 64 yX3_markDead ∈ am_T := am_T_in 193 (by decide +kernel) (by decide +kernel)
theorem wd_194 : Cond.instanceMethod yX3_markDead ∈ am_T := am_T_in 194 (by decide +kernel) (by decide +kernel)
theorem wd_195 : Cond.selects RX3 yX3_markDead yX3_markDead ∈ am_T := am_T_in 195 (by decide +kernel) (by decide +kernel)
theorem q_X3_addFirst_64 : am_qV mX3_addFirst 64 mX3_markDead 2 := ⟨cb_X3_addFirst_X3_markDead 64, wd_193, wd_194, wd_195⟩
theorem pd_X3_putIn : (parseMethodDescriptor yX3_putIn.desc).map (fun d => d.parameters.length) = some 3 := by decide +kernel
theorem wd_204 : Cond.code yX3_putIn cX3_putIn 7 none ∈ am_T := am_T_in 204 (by decide +kernel) (by decide +kernel)
theorem cb_X3_addFirst_X3_putIn (i : Nat) : am_cb mX3_addFirst i mX3_putIn 3 := ⟨wd_204, wd_56, ⟨pl_X3.1, pl_X3.2, pd_X3_putIn⟩, Nat.le_of_ble_eq_true rfl, Nat.le_of_ble_eq_true rfl⟩
theorem wd_201 : Cond.methodLink RX3 68 yX3_putIn ∈ am_T := am_T_in 201 (by decide +kernel) (by decide +kernel)
theorem wd_202 : Cond.instanceMethod yX3_putIn ∈ am_T := am_T_in 202 (by decide +kernel) (by decide +kernel)
theorem wd_203 : Cond.selects RX3 yX3_putIn yX3_putIn ∈ am_T := am_T_in 203 (by decide +kernel) (by decide +kernel)
theorem q_X3_addFirst_68 : am_qV mX3_addFirst 68 mX3_putIn 3 := ⟨cb_X3_addFirst_X3_putIn 68, wd_201, wd_202, wd_203⟩
theorem pf_X3_takeOut : plainFor yX3_takeOut = true := by unfold plainFor; rw [show plainName yX3_takeOut.cls = true from pn_X3]; rfl
def mX3_takeOut : am_M := (yX3_takeOut, cX3_takeOut, 6, some .int, 1, 22)
theorem cb_X3_takeOut_X3_locomotiveAt (i : Nat) : am_cb mX3_takeOut i mX3_locomotiveAt 2 := ⟨wd_232, wd_56, ⟨pl_X3.1, pl_X3.2, pd_X3_locomotiveAt⟩, Nat.le_of_ble_eq_true rfl, Nat.le_of_ble_eq_true rfl⟩
theorem q_X3_takeOut_61 : am_qV mX3_takeOut 61 mX3_locomotiveAt 2 := ⟨cb_X3_takeOut_X3_locomotiveAt 61, wd_229, wd_230, wd_231⟩
theorem cb_X3_takeOut_X3_sizeOf (i : Nat) : am_cb mX3_takeOut i mX3_sizeOf 1 := ⟨wd_212, wd_56, ⟨pl_X3.1, pl_X3.2, pd_X3_sizeOf⟩, Nat.le_of_ble_eq_true rfl, Nat.le_of_ble_eq_true rfl⟩
theorem q_X3_takeOut_78 : am_qV mX3_takeOut 78 mX3_sizeOf 1 := ⟨cb_X3_takeOut_X3_sizeOf 78, wd_209, wd_210, wd_211⟩
theorem pf_X3_removeNewest : plainFor yX3_removeNewest = true := by unfold plainFor; rw [show plainName yX3_removeNewest.cls = true from pn_X3]; rfl
def mX3_removeNewest : am_M := (yX3_removeNewest, cX3_removeNewest, 3, some .int, 3, 68)
theorem pd_X3_placeOf : (parseMethodDescriptor yX3_placeOf.desc).map (fun d => d.parameters.length) = some 1 := by decide +kernel
theorem wd_224 : Cond.code yX3_placeOf cX3_placeOf 3 (some .int) ∈ am_T := am_T_in 224 (by decide +kernel) (by decide +kernel)
theorem cb_X3_removeNewest_X3_placeOf (i : Nat) : am_cb mX3_removeNewest i mX3_placeOf 1 := ⟨wd_224, wd_56, ⟨pl_X3.1, pl_X3.2, pd_X3_placeOf⟩, Nat.le_of_ble_eq_true rfl, Nat.le_of_ble_eq_true rfl⟩
theorem wd_221 : Cond.methodLink RX3 72 yX3_placeOf ∈ am_T := am_T_in 221 (by decide +kernel) (by decide +kernel)
theorem wd_222 : Cond.instanceMethod yX3_placeOf ∈ am_T := am_T_in 222 (by decide +kernel) (by decide +kernel)
theorem wd_223 : Cond.selects RX3 yX3_placeOf yX3_placeOf ∈ am_T := am_T_in 223 (by decide +kernel) (by decide +kernel)
theorem q_X3_removeNewest_72 : am_qV mX3_removeNewest 72 mX3_placeOf 1 := ⟨cb_X3_removeNewest_X3_placeOf 72, wd_221, wd_222, wd_223⟩
theorem cb_X3_removeNewest_X3_indexIn (i : Nat) : am_cb mX3_removeNewest i mX3_indexIn 2 := ⟨wd_228, wd_56, ⟨pl_X3.1, pl_X3.2, pd_X3_indexIn⟩, Nat.le_of_ble_eq_true rfl, Nat.le_of_ble_eq_true rfl⟩
theorem q_X3_removeNewest_54 : am_qV mX3_removeNewest 54 mX3_indexIn 2 := ⟨cb_X3_removeNewest_X3_indexIn 54, wd_225, wd_226, wd_227⟩
theorem pd_X3_takeOut : (parseMethodDescriptor yX3_takeOut.desc).map (fun d => d.parameters.length) = some 2 := by decide +kernel
theorem wd_236 : Cond.code yX3_takeOut cX3_takeOut 6 (some .int) ∈ am_T := am_T_in 236 (by decide +kernel) (by decide +kernel)
theorem cb_X3_removeNewest_X3_takeOut (i : Nat) : am_cb mX3_removeNewest i mX3_takeOut 2 := ⟨wd_236, wd_56, ⟨pl_X3.1, pl_X3.2, pd_X3_takeOut⟩, Nat.le_of_ble_eq_true rfl, Nat.le_of_ble_eq_true rfl⟩
theorem wd_233 : Cond.methodLink RX3 75 yX3_takeOut ∈ am_T := am_T_in 233 (by decide +kernel) (by decide +kernel)
theorem wd_234 : Cond.instanceMethod yX3_takeOut ∈ am_T := am_T_in 234 (by decide +kernel) (by decide +kernel)
theorem wd_235 : Cond.selects RX3 yX3_takeOut yX3_takeOut ∈ am_T := am_T_in 235 (by decide +kernel) (by decide +kernel)
theorem q_X3_removeNewest_75 : am_qV mX3_removeNewest 75 mX3_takeOut 2 := ⟨cb_X3_removeNewest_X3_takeOut 75, wd_233, wd_234, wd_235⟩
theorem pf_X3_emptyRows : plainFor yX3_emptyRows = true := by unfold plainFor; rw [show plainName yX3_emptyRows.cls = true from pn_X3]; rfl
def mX3_emptyRows : am_M := (yX3_emptyRows, cX3_emptyRows, 1, none, 1, 23)
theorem pl_J7 : RJ7 ≠ "java/lang/invoke/MethodHandle" ∧ RJ7 ≠ "java/lang/invoke/VarHandle" := by decide +kernel
theorem pd_J7_fill_53178 : (parseMethodDescriptor yJ7_fill_53178.desc).map (fun d => d.parameters.length) = some 2 := by decide +kernel
theorem wd_466 : Cond.code yJ7_fill_53178 cJ7_fill_53178 4 none ∈ am_T := am_T_in 466 (by decide +kernel) (by decide +kernel)
theorem wd_63 : Cond.initialized RJ7 ∈ am_T := am_T_in 63 (by decide +kernel) (by decide +kernel)
theorem cb_X3_emptyRows_J7_fill_53178 (i : Nat) : am_cb mX3_emptyRows i mJ7_fill_53178 2 := ⟨wd_466, wd_63, ⟨pl_J7.1, pl_J7.2, pd_J7_fill_53178⟩, Nat.le_of_ble_eq_true rfl, Nat.le_of_ble_eq_true rfl⟩
theorem wd_483 : Cond.methodLink RX3 81 yJ7_fill_53178 ∈ am_T := am_T_in 483 (by decide +kernel) (by decide +kernel)
theorem wd_465 : Cond.static yJ7_fill_53178 ∈ am_T := am_T_in 465 (by decide +kernel) (by decide +kernel)
theorem q_X3_emptyRows_81 : am_qS mX3_emptyRows 81 mJ7_fill_53178 2 ∨ am_qN mX3_emptyRows 81 mJ7_fill_53178 2 := Or.inl ⟨cb_X3_emptyRows_J7_fill_53178 81, wd_483, wd_465⟩
theorem pf_X3_allFit : plainFor yX3_allFit = true := by unfold plainFor; rw [show plainName yX3_allFit.cls = true from pn_X3]; rfl
def mX3_allFit : am_M := (yX3_allFit, cX3_allFit, 2, some .boolean, 0, 0)
theorem pf_X3_sourceOf : plainFor yX3_sourceOf = true := by unfold plainFor; rw [show plainName yX3_sourceOf.cls = true from pn_X3]; rfl
def mX3_sourceOf : am_M := (yX3_sourceOf, cX3_sourceOf, 2, some .int, 1, 21)
theorem pl_X4 : RX4 ≠ "java/lang/invoke/MethodHandle" ∧ RX4 ≠ "java/lang/invoke/VarHandle" := by decide +kernel
theorem pd_X4_endOf : (parseMethodDescriptor yX4_endOf.desc).map (fun d => d.parameters.length) = some 1 := by decide +kernel
theorem wd_306 : Cond.code yX4_endOf cX4_endOf 1 (some .int) ∈ am_T := am_T_in 306 (by decide +kernel) (by decide +kernel)
theorem wd_55 : Cond.initialized RX4 ∈ am_T := am_T_in 55 (by decide +kernel) (by decide +kernel)
theorem cb_X3_sourceOf_X4_endOf (i : Nat) : am_cb mX3_sourceOf i mX4_endOf 1 := ⟨wd_306, wd_55, ⟨pl_X4.1, pl_X4.2, pd_X4_endOf⟩, Nat.le_of_ble_eq_true rfl, Nat.le_of_ble_eq_true rfl⟩
theorem wd_305 : Cond.static yX4_endOf ∈ am_T := am_T_in 305 (by decide +kernel) (by decide +kernel)
theorem q_X3_sourceOf_87 : am_qS mX3_sourceOf 87 mX4_endOf 1 ∨ am_qN mX3_sourceOf 87 mX4_endOf 1 := Or.inr ⟨cb_X3_sourceOf_X4_endOf 87, ⟨RX4, List.mem_of_getElem? (i := 5) rfl⟩, wd_305⟩
theorem pd_X3_positionAt : (parseMethodDescriptor yX3_positionAt.desc).map (fun d => d.parameters.length) = some 1 := by decide +kernel
theorem wd_284 : Cond.code yX3_positionAt cX3_positionAt 2 (some .int) ∈ am_T := am_T_in 284 (by decide +kernel) (by decide +kernel)
theorem cb_X3_sourceOf_X3_positionAt (i : Nat) : am_cb mX3_sourceOf i mX3_positionAt 1 := ⟨wd_284, wd_56, ⟨pl_X3.1, pl_X3.2, pd_X3_positionAt⟩, Nat.le_of_ble_eq_true rfl, Nat.le_of_ble_eq_true rfl⟩
theorem wd_307 : Cond.methodLink RX3 90 yX3_positionAt ∈ am_T := am_T_in 307 (by decide +kernel) (by decide +kernel)
theorem wd_282 : Cond.instanceMethod yX3_positionAt ∈ am_T := am_T_in 282 (by decide +kernel) (by decide +kernel)
theorem wd_283 : Cond.selects RX3 yX3_positionAt yX3_positionAt ∈ am_T := am_T_in 283 (by decide +kernel) (by decide +kernel)
theorem q_X3_sourceOf_90 : am_qV mX3_sourceOf 90 mX3_positionAt 1 := ⟨cb_X3_sourceOf_X3_positionAt 90, wd_307, wd_282, wd_283⟩
theorem pf_X3_targetOf : plainFor yX3_targetOf = true := by unfold plainFor; rw [show plainName yX3_targetOf.cls = true from pn_X3]; rfl
def mX3_targetOf : am_M := (yX3_targetOf, cX3_targetOf, 2, some .int, 1, 21)
theorem cb_X3_targetOf_X4_endOf (i : Nat) : am_cb mX3_targetOf i mX4_endOf 1 := ⟨wd_306, wd_55, ⟨pl_X4.1, pl_X4.2, pd_X4_endOf⟩, Nat.le_of_ble_eq_true rfl, Nat.le_of_ble_eq_true rfl⟩
theorem q_X3_targetOf_87 : am_qS mX3_targetOf 87 mX4_endOf 1 ∨ am_qN mX3_targetOf 87 mX4_endOf 1 := Or.inr ⟨cb_X3_targetOf_X4_endOf 87, ⟨RX4, List.mem_of_getElem? (i := 5) rfl⟩, wd_305⟩
theorem cb_X3_targetOf_X3_positionAt (i : Nat) : am_cb mX3_targetOf i mX3_positionAt 1 := ⟨wd_284, wd_56, ⟨pl_X3.1, pl_X3.2, pd_X3_positionAt⟩, Nat.le_of_ble_eq_true rfl, Nat.le_of_ble_eq_true rfl⟩
theorem q_X3_targetOf_90 : am_qV mX3_targetOf 90 mX3_positionAt 1 := ⟨cb_X3_targetOf_X3_positionAt 90, wd_307, wd_282, wd_283⟩
theorem pf_X3_movementError : plainFor yX3_movementError = true := by unfold plainFor; rw [show plainName yX3_movementError.cls = true from pn_X3]; rfl
def mX3_movementError : am_M := (yX3_movementError, cX3_movementError, 9, some .int, 2, 42)
theorem cb_X3_movementError_X4_endOf (i : Nat) : am_cb mX3_movementError i mX4_endOf 1 := ⟨wd_306, wd_55, ⟨pl_X4.1, pl_X4.2, pd_X4_endOf⟩, Nat.le_of_ble_eq_true rfl, Nat.le_of_ble_eq_true rfl⟩
theorem q_X3_movementError_87 : am_qS mX3_movementError 87 mX4_endOf 1 ∨ am_qN mX3_movementError 87 mX4_endOf 1 := Or.inr ⟨cb_X3_movementError_X4_endOf 87, ⟨RX4, List.mem_of_getElem? (i := 5) rfl⟩, wd_305⟩
theorem cb_X3_movementError_X3_positionAt (i : Nat) : am_cb mX3_movementError i mX3_positionAt 1 := ⟨wd_284, wd_56, ⟨pl_X3.1, pl_X3.2, pd_X3_positionAt⟩, Nat.le_of_ble_eq_true rfl, Nat.le_of_ble_eq_true rfl⟩
theorem q_X3_movementError_90 : am_qV mX3_movementError 90 mX3_positionAt 1 := ⟨cb_X3_movementError_X3_positionAt 90, wd_307, wd_282, wd_283⟩
theorem cb_X3_movementError_X3_lengthAt (i : Nat) : am_cb mX3_movementError i mX3_lengthAt 1 := ⟨wd_158, wd_56, ⟨pl_X3.1, pl_X3.2, pd_X3_lengthAt⟩, Nat.le_of_ble_eq_true rfl, Nat.le_of_ble_eq_true rfl⟩
theorem q_X3_movementError_47 : am_qV mX3_movementError 47 mX3_lengthAt 1 := ⟨cb_X3_movementError_X3_lengthAt 47, wd_187, wd_156, wd_157⟩
theorem bc_m2 : (Int8.ofInt (-2)).toInt32 = (-2) := by decide +kernel
theorem pd_X3_sourceOf : (parseMethodDescriptor yX3_sourceOf.desc).map (fun d => d.parameters.length) = some 1 := by decide +kernel
theorem wd_303 : Cond.code yX3_sourceOf cX3_sourceOf 2 (some .int) ∈ am_T := am_T_in 303 (by decide +kernel) (by decide +kernel)
theorem cb_X3_movementError_X3_sourceOf (i : Nat) : am_cb mX3_movementError i mX3_sourceOf 1 := ⟨wd_303, wd_56, ⟨pl_X3.1, pl_X3.2, pd_X3_sourceOf⟩, Nat.le_of_ble_eq_true rfl, Nat.le_of_ble_eq_true rfl⟩
theorem wd_300 : Cond.methodLink RX3 93 yX3_sourceOf ∈ am_T := am_T_in 300 (by decide +kernel) (by decide +kernel)
theorem wd_301 : Cond.instanceMethod yX3_sourceOf ∈ am_T := am_T_in 301 (by decide +kernel) (by decide +kernel)
theorem wd_302 : Cond.selects RX3 yX3_sourceOf yX3_sourceOf ∈ am_T := am_T_in 302 (by decide +kernel) (by decide +kernel)
theorem q_X3_movementError_93 : am_qV mX3_movementError 93 mX3_sourceOf 1 := ⟨cb_X3_movementError_X3_sourceOf 93, wd_300, wd_301, wd_302⟩
theorem cb_X3_movementError_X3_countAt (i : Nat) : am_cb mX3_movementError i mX3_countAt 1 := ⟨wd_208, wd_56, ⟨pl_X3.1, pl_X3.2, pd_X3_countAt⟩, Nat.le_of_ble_eq_true rfl, Nat.le_of_ble_eq_true rfl⟩
theorem q_X3_movementError_58 : am_qV mX3_movementError 58 mX3_countAt 1 := ⟨cb_X3_movementError_X3_countAt 58, wd_205, wd_206, wd_207⟩
theorem bc_m7 : (Int8.ofInt (-7)).toInt32 = (-7) := by decide +kernel
theorem pd_X3_targetOf : (parseMethodDescriptor yX3_targetOf.desc).map (fun d => d.parameters.length) = some 1 := by decide +kernel
theorem wd_311 : Cond.code yX3_targetOf cX3_targetOf 2 (some .int) ∈ am_T := am_T_in 311 (by decide +kernel) (by decide +kernel)
theorem cb_X3_movementError_X3_targetOf (i : Nat) : am_cb mX3_movementError i mX3_targetOf 1 := ⟨wd_311, wd_56, ⟨pl_X3.1, pl_X3.2, pd_X3_targetOf⟩, Nat.le_of_ble_eq_true rfl, Nat.le_of_ble_eq_true rfl⟩
theorem wd_308 : Cond.methodLink RX3 99 yX3_targetOf ∈ am_T := am_T_in 308 (by decide +kernel) (by decide +kernel)
theorem wd_309 : Cond.instanceMethod yX3_targetOf ∈ am_T := am_T_in 309 (by decide +kernel) (by decide +kernel)
theorem wd_310 : Cond.selects RX3 yX3_targetOf yX3_targetOf ∈ am_T := am_T_in 310 (by decide +kernel) (by decide +kernel)
theorem q_X3_movementError_99 : am_qV mX3_movementError 99 mX3_targetOf 1 := ⟨cb_X3_movementError_X3_targetOf 99, wd_308, wd_309, wd_310⟩
theorem pd_X3_freeAt : (parseMethodDescriptor yX3_freeAt.desc).map (fun d => d.parameters.length) = some 1 := by decide +kernel
theorem wd_186 : Cond.code yX3_freeAt cX3_freeAt 2 (some .int) ∈ am_T := am_T_in 186 (by decide +kernel) (by decide +kernel)
theorem cb_X3_movementError_X3_freeAt (i : Nat) : am_cb mX3_movementError i mX3_freeAt 1 := ⟨wd_186, wd_56, ⟨pl_X3.1, pl_X3.2, pd_X3_freeAt⟩, Nat.le_of_ble_eq_true rfl, Nat.le_of_ble_eq_true rfl⟩
theorem wd_329 : Cond.methodLink RX3 102 yX3_freeAt ∈ am_T := am_T_in 329 (by decide +kernel) (by decide +kernel)
theorem wd_184 : Cond.instanceMethod yX3_freeAt ∈ am_T := am_T_in 184 (by decide +kernel) (by decide +kernel)
theorem wd_185 : Cond.selects RX3 yX3_freeAt yX3_freeAt ∈ am_T := am_T_in 185 (by decide +kernel) (by decide +kernel)
theorem q_X3_movementError_102 : am_qV mX3_movementError 102 mX3_freeAt 1 := ⟨cb_X3_movementError_X3_freeAt 102, wd_329, wd_184, wd_185⟩
theorem bc_m8 : (Int8.ofInt (-8)).toInt32 = (-8) := by decide +kernel
theorem cb_X3_movementError_X3_locomotiveAt (i : Nat) : am_cb mX3_movementError i mX3_locomotiveAt 2 := ⟨wd_232, wd_56, ⟨pl_X3.1, pl_X3.2, pd_X3_locomotiveAt⟩, Nat.le_of_ble_eq_true rfl, Nat.le_of_ble_eq_true rfl⟩
theorem q_X3_movementError_61 : am_qV mX3_movementError 61 mX3_locomotiveAt 2 := ⟨cb_X3_movementError_X3_locomotiveAt 61, wd_229, wd_230, wd_231⟩
theorem cb_X3_movementError_X3_sizeOf (i : Nat) : am_cb mX3_movementError i mX3_sizeOf 1 := ⟨wd_212, wd_56, ⟨pl_X3.1, pl_X3.2, pd_X3_sizeOf⟩, Nat.le_of_ble_eq_true rfl, Nat.le_of_ble_eq_true rfl⟩
theorem q_X3_movementError_78 : am_qV mX3_movementError 78 mX3_sizeOf 1 := ⟨cb_X3_movementError_X3_sizeOf 78, wd_209, wd_210, wd_211⟩
theorem pd_X3_isAlive : (parseMethodDescriptor yX3_isAlive.desc).map (fun d => d.parameters.length) = some 1 := by decide +kernel
theorem wd_245 : Cond.code yX3_isAlive cX3_isAlive 2 (some .boolean) ∈ am_T := am_T_in 245 (by decide +kernel) (by decide +kernel)
theorem cb_X3_movementError_X3_isAlive (i : Nat) : am_cb mX3_movementError i mX3_isAlive 1 := ⟨wd_245, wd_56, ⟨pl_X3.1, pl_X3.2, pd_X3_isAlive⟩, Nat.le_of_ble_eq_true rfl, Nat.le_of_ble_eq_true rfl⟩
theorem wd_328 : Cond.methodLink RX3 96 yX3_isAlive ∈ am_T := am_T_in 328 (by decide +kernel) (by decide +kernel)
theorem wd_243 : Cond.instanceMethod yX3_isAlive ∈ am_T := am_T_in 243 (by decide +kernel) (by decide +kernel)
theorem wd_244 : Cond.selects RX3 yX3_isAlive yX3_isAlive ∈ am_T := am_T_in 244 (by decide +kernel) (by decide +kernel)
theorem q_X3_movementError_96 : am_qV mX3_movementError 96 mX3_isAlive 1 := ⟨cb_X3_movementError_X3_isAlive 96, wd_328, wd_243, wd_244⟩
theorem bc_m6 : (Int8.ofInt (-6)).toInt32 = (-6) := by decide +kernel
theorem pf_X3_shift : plainFor yX3_shift = true := by unfold plainFor; rw [show plainName yX3_shift.cls = true from pn_X3]; rfl
def mX3_shift : am_M := (yX3_shift, cX3_shift, 7, none, 2, 47)
theorem cb_X3_shift_X3_sourceOf (i : Nat) : am_cb mX3_shift i mX3_sourceOf 1 := ⟨wd_303, wd_56, ⟨pl_X3.1, pl_X3.2, pd_X3_sourceOf⟩, Nat.le_of_ble_eq_true rfl, Nat.le_of_ble_eq_true rfl⟩
theorem q_X3_shift_93 : am_qV mX3_shift 93 mX3_sourceOf 1 := ⟨cb_X3_shift_X3_sourceOf 93, wd_300, wd_301, wd_302⟩
theorem cb_X3_shift_X3_targetOf (i : Nat) : am_cb mX3_shift i mX3_targetOf 1 := ⟨wd_311, wd_56, ⟨pl_X3.1, pl_X3.2, pd_X3_targetOf⟩, Nat.le_of_ble_eq_true rfl, Nat.le_of_ble_eq_true rfl⟩
theorem q_X3_shift_99 : am_qV mX3_shift 99 mX3_targetOf 1 := ⟨cb_X3_shift_X3_targetOf 99, wd_308, wd_309, wd_310⟩
theorem cb_X3_shift_X3_countAt (i : Nat) : am_cb mX3_shift i mX3_countAt 1 := ⟨wd_208, wd_56, ⟨pl_X3.1, pl_X3.2, pd_X3_countAt⟩, Nat.le_of_ble_eq_true rfl, Nat.le_of_ble_eq_true rfl⟩
theorem q_X3_shift_58 : am_qV mX3_shift 58 mX3_countAt 1 := ⟨cb_X3_shift_X3_countAt 58, wd_205, wd_206, wd_207⟩
theorem cb_X3_shift_X3_takeOut (i : Nat) : am_cb mX3_shift i mX3_takeOut 2 := ⟨wd_236, wd_56, ⟨pl_X3.1, pl_X3.2, pd_X3_takeOut⟩, Nat.le_of_ble_eq_true rfl, Nat.le_of_ble_eq_true rfl⟩
theorem q_X3_shift_75 : am_qV mX3_shift 75 mX3_takeOut 2 := ⟨cb_X3_shift_X3_takeOut 75, wd_233, wd_234, wd_235⟩
theorem cb_X3_shift_X3_putIn (i : Nat) : am_cb mX3_shift i mX3_putIn 3 := ⟨wd_204, wd_56, ⟨pl_X3.1, pl_X3.2, pd_X3_putIn⟩, Nat.le_of_ble_eq_true rfl, Nat.le_of_ble_eq_true rfl⟩
theorem q_X3_shift_68 : am_qV mX3_shift 68 mX3_putIn 3 := ⟨cb_X3_shift_X3_putIn 68, wd_201, wd_202, wd_203⟩
theorem pf_X3_carryOut : plainFor yX3_carryOut = true := by unfold plainFor; rw [show plainName yX3_carryOut.cls = true from pn_X3]; rfl
def mX3_carryOut : am_M := (yX3_carryOut, cX3_carryOut, 2, none, 3, 73)
theorem fp_X3_40 : am_fp RX3 40 3 7 .int false := ⟨RX3, TX3, 8, tyX3, cl_X3, Nat.le_of_ble_eq_true rfl, rfl, rfl, rfl, Or.inl ⟨wd_88, fun _ => rfl⟩⟩
theorem nz_10 : ¬ (10 : Int32) = 0 := by decide +kernel
theorem pd_X3_shift : (parseMethodDescriptor yX3_shift.desc).map (fun d => d.parameters.length) = some 2 := by decide +kernel
theorem wd_299 : Cond.code yX3_shift cX3_shift 7 none ∈ am_T := am_T_in 299 (by decide +kernel) (by decide +kernel)
theorem cb_X3_carryOut_X3_shift (i : Nat) : am_cb mX3_carryOut i mX3_shift 2 := ⟨wd_299, wd_56, ⟨pl_X3.1, pl_X3.2, pd_X3_shift⟩, Nat.le_of_ble_eq_true rfl, Nat.le_of_ble_eq_true rfl⟩
theorem wd_296 : Cond.methodLink RX3 105 yX3_shift ∈ am_T := am_T_in 296 (by decide +kernel) (by decide +kernel)
theorem wd_297 : Cond.instanceMethod yX3_shift ∈ am_T := am_T_in 297 (by decide +kernel) (by decide +kernel)
theorem wd_298 : Cond.selects RX3 yX3_shift yX3_shift ∈ am_T := am_T_in 298 (by decide +kernel) (by decide +kernel)
theorem q_X3_carryOut_105 : am_qV mX3_carryOut 105 mX3_shift 2 := ⟨cb_X3_carryOut_X3_shift 105, wd_296, wd_297, wd_298⟩
