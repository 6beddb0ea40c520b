def fX0 (m : Mu) : am_H := [some (.inr (.inr (0, [.ref 1, .int (m 2 1)]))), some (.inl (0, 40, m 0))]
theorem fam_X0 : am_fam fX0 2 := fun m => ⟨rfl, rfl, rfl⟩
def fX2 (m : Mu) : am_H := [some (.inr (.inr (2, [.ref 1, .int (m 3 1), .int (m 3 2)]))), some (.inl (0, 4032, m 0))]
theorem fam_X2 : am_fam fX2 2 := fun m => ⟨rfl, rfl, rfl⟩
def fX3 (m : Mu) : am_H := [some (.inr (.inr (3, [.ref 1, .ref 2, .ref 3, .ref 4, .ref 5, .int (m 8 5), .int (m 8 6), .int (m 8 7)]))), some (.inl (0, 13, m 0)), some (.inl (0, 13, m 1)), some (.inl (0, 13, m 2)), some (.inl (0, 104, m 3)), some (.inl (0, 8, m 4))]
theorem fam_X3 : am_fam fX3 6 := fun m => ⟨rfl, rfl, rfl⟩
def fX1 (m : Mu) : am_H := [some (.inr (.inr (1, [.ref 1, .ref 7, .ref 8, .ref 9, .ref 10, .ref 11, .ref 12, .ref 14, .int (m 13 8), .int (m 13 9), .int (m 13 10), .int (m 13 11), .int (m 13 12)]))), some (.inr (.inr (3, [.ref 2, .ref 3, .ref 4, .ref 5, .ref 6, .int (m 28 5), .int (m 28 6), .int (m 28 7)]))), some (.inl (0, 13, m 20)), some (.inl (0, 13, m 21)), some (.inl (0, 13, m 22)), some (.inl (0, 104, m 23)), some (.inl (0, 8, m 24)), some (.inl (0, 6, m 1)), some (.inl (0, 3, m 2)), some (.inl (0, 14, m 3)), some (.inl (0, 14, m 4)), some (.inl (0, 4032, m 5)), some (.inr (.inr (2, [.ref 13, .int (m 33 1), .int (m 33 2)]))), some (.inl (0, 4032, m 30)), some (.inr (.inr (2, [.ref 15, .int (m 43 1), .int (m 43 2)]))), some (.inl (0, 4032, m 40))]
theorem fam_X1 : am_fam fX1 16 := fun m => ⟨rfl, rfl, rfl⟩
def fX5 (m : Mu) : am_H := [some (.inr (.inr (5, [.ref 1, .ref 2, .ref 3, .int (m 32 3), .int (m 32 4), .ref 4, .int (m 32 6), .int (m 32 7), .ref 5, .ref 6, .int (m 32 10), .ref 7, .ref 8, .int (m 32 13), .ref 9, .ref 10, .ref 11, .ref 12, .int (m 32 18), .ref 13, .ref 14, .ref 15, .ref 16, .ref 17, .ref 18, .ref 19, .ref 20, .ref 21, .ref 22, .int (m 32 29), .int (m 32 30), .int (m 32 31)]))), some (.inl (0, 148, m 0)), some (.inl (0, 296, m 1)), some (.inl (1, 2, m 2)), some (.inl (0, 40, m 5)), some (.inl (0, 24, m 8)), some (.inl (0, 64, m 9)), some (.inl (0, 336, m 11)), some (.inl (0, 15625, m 12)), some (.inl (0, 6, m 14)), some (.inl (0, 13, m 15)), some (.inl (0, 24, m 16)), some (.inl (0, 6, m 17)), some (.inl (0, 4032, m 19)), some (.inl (0, 4032, m 20)), some (.inl (1, 4032, m 21)), some (.inl (0, 4032, m 22)), some (.inl (0, 4032, m 23)), some (.inl (0, 4032, m 24)), some (.inl (0, 4032, m 25)), some (.inl (0, 4032, m 26)), some (.inl (0, 4032, m 27)), some (.inl (0, 4032, m 28))]
theorem fam_X5 : am_fam fX5 23 := fun m => ⟨rfl, rfl, rfl⟩
def gY (m : Mu) : am_H := [some (.inr (.inr (3, [.ref 17, .ref 18, .ref 19, .ref 20, .ref 21, .int (m 58 5), .int (m 58 6), .int (m 58 7)]))), some (.inl (0, 13, m 50)), some (.inl (0, 13, m 51)), some (.inl (0, 13, m 52)), some (.inl (0, 104, m 53)), some (.inl (0, 8, m 54))]
def fX1Y (m : Mu) : am_H := fX1 m ++ gY m
theorem fam_X1Y : am_fam fX1Y 22 := fun m => ⟨rfl, rfl, rfl⟩
def fX3Y (m : Mu) : am_H := [some (.inr (.inr (3, [.ref 1, .ref 2, .ref 3, .ref 4, .ref 5, .int (m 8 5), .int (m 8 6), .int (m 8 7)]))), some (.inl (0, 13, m 0)), some (.inl (0, 13, m 1)), some (.inl (0, 13, m 2)), some (.inl (0, 104, m 3)), some (.inl (0, 8, m 4)), some (.inr (.inr (3, [.ref 7, .ref 8, .ref 9, .ref 10, .ref 11, .int (m 18 5), .int (m 18 6), .int (m 18 7)]))), some (.inl (0, 13, m 10)), some (.inl (0, 13, m 11)), some (.inl (0, 13, m 12)), some (.inl (0, 104, m 13)), some (.inl (0, 8, m 14))]
theorem fam_X3Y : am_fam fX3Y 12 := fun m => ⟨rfl, rfl, rfl⟩
def fX4 (hp s0 s1 : Bool) (m : HM) : am_H := [some (.inr (.inr (4, [.ref 1, .ref 7, .ref 8, cond hp (.ref 10) .null, .int (m.1)]))), some (.inr (.inr (3, [.ref 2, .ref 3, .ref 4, .ref 5, .ref 6, .int (m.2.1 8 5), .int (m.2.1 8 6), .int (m.2.1 8 7)]))), some (.inl (0, 13, m.2.1 0)), some (.inl (0, 13, m.2.1 1)), some (.inl (0, 13, m.2.1 2)), some (.inl (0, 104, m.2.1 3)), some (.inl (0, 8, m.2.1 4)), some (.inr (.inl [cond s0 (some 26) none, cond s1 (some 32) none])), some (.inr (.inr (0, [.ref 9, .int (m.2.2.1 2 1)]))), some (.inl (0, 40, m.2.2.1 0)), cond hp (some (.inr (.inr (1, [.ref 11, .ref 17, .ref 18, .ref 19, .ref 20, .ref 21, .ref 22, .ref 24, .int (m.2.2.2.1 13 8), .int (m.2.2.2.1 13 9), .int (m.2.2.2.1 13 10), .int (m.2.2.2.1 13 11), .int (m.2.2.2.1 13 12)])))) none, cond hp (some (.inr (.inr (3, [.ref 12, .ref 13, .ref 14, .ref 15, .ref 16, .int (m.2.2.2.1 28 5), .int (m.2.2.2.1 28 6), .int (m.2.2.2.1 28 7)])))) none, cond hp (some (.inl (0, 13, m.2.2.2.1 20))) none, cond hp (some (.inl (0, 13, m.2.2.2.1 21))) none, cond hp (some (.inl (0, 13, m.2.2.2.1 22))) none, cond hp (some (.inl (0, 104, m.2.2.2.1 23))) none, cond hp (some (.inl (0, 8, m.2.2.2.1 24))) none, cond hp (some (.inl (0, 6, m.2.2.2.1 1))) none, cond hp (some (.inl (0, 3, m.2.2.2.1 2))) none, cond hp (some (.inl (0, 14, m.2.2.2.1 3))) none, cond hp (some (.inl (0, 14, m.2.2.2.1 4))) none, cond hp (some (.inl (0, 4032, m.2.2.2.1 5))) none, cond hp (some (.inr (.inr (2, [.ref 23, .int (m.2.2.2.1 33 1), .int (m.2.2.2.1 33 2)])))) none, cond hp (some (.inl (0, 4032, m.2.2.2.1 30))) none, cond hp (some (.inr (.inr (2, [.ref 25, .int (m.2.2.2.1 43 1), .int (m.2.2.2.1 43 2)])))) none, cond hp (some (.inl (0, 4032, m.2.2.2.1 40))) none, cond s0 (some (.inr (.inr (3, [.ref 27, .ref 28, .ref 29, .ref 30, .ref 31, .int (m.2.2.2.2.1 8 5), .int (m.2.2.2.2.1 8 6), .int (m.2.2.2.2.1 8 7)])))) none, cond s0 (some (.inl (0, 13, m.2.2.2.2.1 0))) none, cond s0 (some (.inl (0, 13, m.2.2.2.2.1 1))) none, cond s0 (some (.inl (0, 13, m.2.2.2.2.1 2))) none, cond s0 (some (.inl (0, 104, m.2.2.2.2.1 3))) none, cond s0 (some (.inl (0, 8, m.2.2.2.2.1 4))) none, cond s1 (some (.inr (.inr (3, [.ref 33, .ref 34, .ref 35, .ref 36, .ref 37, .int (m.2.2.2.2.2 8 5), .int (m.2.2.2.2.2 8 6), .int (m.2.2.2.2.2 8 7)])))) none, cond s1 (some (.inl (0, 13, m.2.2.2.2.2 0))) none, cond s1 (some (.inl (0, 13, m.2.2.2.2.2 1))) none, cond s1 (some (.inl (0, 13, m.2.2.2.2.2 2))) none, cond s1 (some (.inl (0, 104, m.2.2.2.2.2 3))) none, cond s1 (some (.inl (0, 8, m.2.2.2.2.2 4))) none]
def mJ7_fill_53178 : am_M := (yJ7_fill_53178, cJ7_fill_53178, 4, none, 0, 0)
theorem pf_J7_fill_53178 : plainFor yJ7_fill_53178 = true := by decide +kernel
theorem ic_0 : Int32.ofInt 0 = 0 := by decide +kernel
theorem ic_1 : Int32.ofInt 1 = 1 := by decide +kernel
def mX0_init : am_M := (yX0_init, cX0_init, 1, none, 1, 20)
theorem pn_X0 : plainName RX0 = true := by decide +kernel
theorem pf_X0_init : plainFor yX0_init = true := by unfold plainFor; rw [show plainName yX0_init.cls = true from pn_X0]; rfl
theorem wd_115 : Cond.methodLink RX0 3 objectInit ∈ am_T := am_T_in 115 (by decide +kernel) (by decide +kernel)
theorem wd_71 : Cond.instanceMethod objectInit ∈ am_T := am_T_in 71 (by decide +kernel) (by decide +kernel)
theorem wd_72 : Cond.code objectInit ⟨#[0xb1]⟩ 1 none ∈ am_T := am_T_in 72 (by decide +kernel) (by decide +kernel)
theorem bc_40 : (Int8.ofInt 40).toInt32 = 40 := by decide +kernel
theorem wd_108 : Cond.arrayClass .int ∈ am_T := am_T_in 108 (by decide +kernel) (by decide +kernel)
theorem cl_X0 : am_cls 0 RX0 TX0 2 tyX0 := ⟨rfl, am_sub_r _ [119, 121] (by decide +kernel) (by decide +kernel), tyX0_ok, nmX0⟩
theorem wd_116 : Cond.fieldLink RX0 9 RX0 "codes" "[I" ∈ am_T := am_T_in 116 (by decide +kernel) (by decide +kernel)
theorem fp_X0_9 : am_fp RX0 9 0 0 (.array .int) true := ⟨RX0, TX0, 2, tyX0, cl_X0, Nat.le_of_ble_eq_true rfl, rfl, rfl, rfl, Or.inl ⟨wd_116, fun _ => rfl⟩⟩
def mX2_init : am_M := (yX2_init, cX2_init, 1, none, 1, 20)
theorem pn_X2 : plainName RX2 = true := by decide +kernel
theorem pf_X2_init : plainFor yX2_init = true := by unfold plainFor; rw [show plainName yX2_init.cls = true from pn_X2]; rfl
theorem wd_389 : Cond.methodLink RX2 3 objectInit ∈ am_T := am_T_in 389 (by decide +kernel) (by decide +kernel)
theorem sc_4032 : (Int16.ofInt 4032).toInt32 = 4032 := by decide +kernel
theorem cl_X2 : am_cls 2 RX2 TX2 3 tyX2 := ⟨rfl, am_sub_r _ [393, 395, 397] (by decide +kernel) (by decide +kernel), tyX2_ok, nmX2⟩
theorem wd_390 : Cond.fieldLink RX2 9 RX2 "states" "[I" ∈ am_T := am_T_in 390 (by decide +kernel) (by decide +kernel)
theorem fp_X2_9 : am_fp RX2 9 2 0 (.array .int) true := ⟨RX2, TX2, 3, tyX2, cl_X2, Nat.le_of_ble_eq_true rfl, rfl, rfl, rfl, Or.inl ⟨wd_390, fun _ => rfl⟩⟩
def mX3_init : am_M := (yX3_init, cX3_init, 1, none, 1, 20)
theorem pn_X3 : plainName RX3 = true := by decide +kernel
theorem pf_X3_init : plainFor yX3_init = true := by unfold plainFor; rw [show plainName yX3_init.cls = true from pn_X3]; rfl
theorem wd_78 : Cond.methodLink RX3 3 objectInit ∈ am_T := am_T_in 78 (by decide +kernel) (by decide +kernel)
theorem bc_13 : (Int8.ofInt 13).toInt32 = 13 := by decide +kernel
theorem cl_X3 : am_cls 3 RX3 TX3 8 tyX3 := ⟨rfl, am_sub_r _ [91, 93, 95, 97, 99, 101, 103, 105] (by decide +kernel) (by decide +kernel), tyX3_ok, nmX3⟩
theorem wd_79 : Cond.fieldLink RX3 9 RX3 "lengths" "[I" ∈ am_T := am_T_in 79 (by decide +kernel) (by decide +kernel)
theorem fp_X3_9 : am_fp RX3 9 3 0 (.array .int) true := ⟨RX3, TX3, 8, tyX3, cl_X3, Nat.le_of_ble_eq_true rfl, rfl, rfl, rfl, Or.inl ⟨wd_79, fun _ => rfl⟩⟩
theorem fl_X3_9 : am_fl RX3 9 3 0 := ⟨RX3, TX3, 8, tyX3, cl_X3, Nat.le_of_ble_eq_true rfl, rfl, Or.inl wd_79⟩
theorem bc_12 : (Int8.ofInt 12).toInt32 = 12 := by decide +kernel
theorem bc_30 : (Int8.ofInt 30).toInt32 = 30 := by decide +kernel
theorem wd_80 : Cond.fieldLink RX3 15 RX3 "used" "[I" ∈ am_T := am_T_in 80 (by decide +kernel) (by decide +kernel)
theorem fp_X3_15 : am_fp RX3 15 3 1 (.array .int) true := ⟨RX3, TX3, 8, tyX3, cl_X3, Nat.le_of_ble_eq_true rfl, rfl, rfl, rfl, Or.inl ⟨wd_80, fun _ => rfl⟩⟩
theorem wd_81 : Cond.fieldLink RX3 18 RX3 "counts" "[I" ∈ am_T := am_T_in 81 (by decide +kernel) (by decide +kernel)
theorem fp_X3_18 : am_fp RX3 18 3 2 (.array .int) true := ⟨RX3, TX3, 8, tyX3, cl_X3, Nat.le_of_ble_eq_true rfl, rfl, rfl, rfl, Or.inl ⟨wd_81, fun _ => rfl⟩⟩
theorem bc_104 : (Int8.ofInt 104).toInt32 = 104 := by decide +kernel
theorem wd_82 : Cond.fieldLink RX3 21 RX3 "rows" "[I" ∈ am_T := am_T_in 82 (by decide +kernel) (by decide +kernel)
theorem fp_X3_21 : am_fp RX3 21 3 3 (.array .int) true := ⟨RX3, TX3, 8, tyX3, cl_X3, Nat.le_of_ble_eq_true rfl, rfl, rfl, rfl, Or.inl ⟨wd_82, fun _ => rfl⟩⟩
theorem bc_8 : (Int8.ofInt 8).toInt32 = 8 := by decide +kernel
theorem wd_83 : Cond.fieldLink RX3 24 RX3 "sizes" "[I" ∈ am_T := am_T_in 83 (by decide +kernel) (by decide +kernel)
theorem fp_X3_24 : am_fp RX3 24 3 4 (.array .int) true := ⟨RX3, TX3, 8, tyX3, cl_X3, Nat.le_of_ble_eq_true rfl, rfl, rfl, rfl, Or.inl ⟨wd_83, fun _ => rfl⟩⟩
def mX1_init : am_M := (yX1_init, cX1_init, 1, none, 2, 40)
theorem pn_X1 : plainName RX1 = true := by decide +kernel
theorem pf_X1_init : plainFor yX1_init = true := by unfold plainFor; rw [show plainName yX1_init.cls = true from pn_X1]; rfl
theorem wd_381 : Cond.methodLink RX1 3 objectInit ∈ am_T := am_T_in 381 (by decide +kernel) (by decide +kernel)
theorem wd_382 : Cond.classLink RX1 9 RX3 ∈ am_T := am_T_in 382 (by decide +kernel) (by decide +kernel)
theorem wd_74 : Cond.instantiable RX3 8 ∈ am_T := am_T_in 74 (by decide +kernel) (by decide +kernel)
theorem wd_56 : Cond.initialized RX3 ∈ am_T := am_T_in 56 (by decide +kernel) (by decide +kernel)
theorem pl_X3 : RX3 ≠ "java/lang/invoke/MethodHandle" ∧ RX3 ≠ "java/lang/invoke/VarHandle" := by decide +kernel
theorem pd_X3_init : (parseMethodDescriptor yX3_init.desc).map (fun d => d.parameters.length) = some 0 := by decide +kernel
theorem wd_77 : Cond.code yX3_init cX3_init 1 none ∈ am_T := am_T_in 77 (by decide +kernel) (by decide +kernel)
theorem cb_X1_init_X3_init (i : Nat) : am_cb mX1_init i mX3_init 0 := ⟨wd_77, wd_56, ⟨pl_X3.1, pl_X3.2, pd_X3_init⟩, Nat.le_of_ble_eq_true rfl, Nat.le_of_ble_eq_true rfl⟩
theorem wd_383 : Cond.methodLink RX1 11 yX3_init ∈ am_T := am_T_in 383 (by decide +kernel) (by decide +kernel)
theorem wd_76 : Cond.instanceMethod yX3_init ∈ am_T := am_T_in 76 (by decide +kernel) (by decide +kernel)
theorem q_X1_init_11 : am_qI mX1_init 11 mX3_init 0 := ⟨cb_X1_init_X3_init 11, wd_383, wd_76⟩
theorem cl_X1 : am_cls 1 RX1 TX1 13 tyX1 := ⟨rfl, am_sub_r _ [413, 415, 417, 419, 421, 423, 425, 427, 429, 431, 433, 435, 437] (by decide +kernel) (by decide +kernel), tyX1_ok, nmX1⟩
theorem wd_400 : Cond.fieldLink RX1 12 RX1 "view" "LTurntableHouse$Yard;" ∈ am_T := am_T_in 400 (by decide +kernel) (by decide +kernel)
theorem fp_X1_12 : am_fp RX1 12 1 0 (.object "TurntableHouse$Yard") true := ⟨RX1, TX1, 13, tyX1, cl_X1, Nat.le_of_ble_eq_true rfl, rfl, rfl, rfl, Or.inl ⟨wd_400, fun _ => rfl⟩⟩
theorem bc_6 : (Int8.ofInt 6).toInt32 = 6 := by decide +kernel
theorem wd_401 : Cond.fieldLink RX1 18 RX1 "places" "[I" ∈ am_T := am_T_in 401 (by decide +kernel) (by decide +kernel)
theorem fp_X1_18 : am_fp RX1 18 1 1 (.array .int) true := ⟨RX1, TX1, 13, tyX1, cl_X1, Nat.le_of_ble_eq_true rfl, rfl, rfl, rfl, Or.inl ⟨wd_401, fun _ => rfl⟩⟩
theorem ic_3 : Int32.ofInt 3 = 3 := by decide +kernel
theorem wd_402 : Cond.fieldLink RX1 22 RX1 "lineSlots" "[I" ∈ am_T := am_T_in 402 (by decide +kernel) (by decide +kernel)
theorem fp_X1_22 : am_fp RX1 22 1 2 (.array .int) true := ⟨RX1, TX1, 13, tyX1, cl_X1, Nat.le_of_ble_eq_true rfl, rfl, rfl, rfl, Or.inl ⟨wd_402, fun _ => rfl⟩⟩
theorem bc_14 : (Int8.ofInt 14).toInt32 = 14 := by decide +kernel
theorem wd_403 : Cond.fieldLink RX1 25 RX1 "codes" "[I" ∈ am_T := am_T_in 403 (by decide +kernel) (by decide +kernel)
theorem fp_X1_25 : am_fp RX1 25 1 3 (.array .int) true := ⟨RX1, TX1, 13, tyX1, cl_X1, Nat.le_of_ble_eq_true rfl, rfl, rfl, rfl, Or.inl ⟨wd_403, fun _ => rfl⟩⟩
theorem wd_404 : Cond.fieldLink RX1 28 RX1 "neighbours" "[I" ∈ am_T := am_T_in 404 (by decide +kernel) (by decide +kernel)
theorem fp_X1_28 : am_fp RX1 28 1 4 (.array .int) true := ⟨RX1, TX1, 13, tyX1, cl_X1, Nat.le_of_ble_eq_true rfl, rfl, rfl, rfl, Or.inl ⟨wd_404, fun _ => rfl⟩⟩
theorem wd_405 : Cond.fieldLink RX1 31 RX1 "costs" "[I" ∈ am_T := am_T_in 405 (by decide +kernel) (by decide +kernel)
theorem fp_X1_31 : am_fp RX1 31 1 5 (.array .int) true := ⟨RX1, TX1, 13, tyX1, cl_X1, Nat.le_of_ble_eq_true rfl, rfl, rfl, rfl, Or.inl ⟨wd_405, fun _ => rfl⟩⟩
theorem wd_384 : Cond.classLink RX1 34 RX2 ∈ am_T := am_T_in 384 (by decide +kernel) (by decide +kernel)
theorem wd_385 : Cond.instantiable RX2 3 ∈ am_T := am_T_in 385 (by decide +kernel) (by decide +kernel)
theorem wd_61 : Cond.initialized RX2 ∈ am_T := am_T_in 61 (by decide +kernel) (by decide +kernel)
theorem pl_X2 : RX2 ≠ "java/lang/invoke/MethodHandle" ∧ RX2 ≠ "java/lang/invoke/VarHandle" := by decide +kernel
theorem pd_X2_init : (parseMethodDescriptor yX2_init.desc).map (fun d => d.parameters.length) = some 0 := by decide +kernel
theorem wd_388 : Cond.code yX2_init cX2_init 1 none ∈ am_T := am_T_in 388 (by decide +kernel) (by decide +kernel)
theorem cb_X1_init_X2_init (i : Nat) : am_cb mX1_init i mX2_init 0 := ⟨wd_388, wd_61, ⟨pl_X2.1, pl_X2.2, pd_X2_init⟩, Nat.le_of_ble_eq_true rfl, Nat.le_of_ble_eq_true rfl⟩
theorem wd_386 : Cond.methodLink RX1 36 yX2_init ∈ am_T := am_T_in 386 (by decide +kernel) (by decide +kernel)
theorem wd_387 : Cond.instanceMethod yX2_init ∈ am_T := am_T_in 387 (by decide +kernel) (by decide +kernel)
theorem q_X1_init_36 : am_qI mX1_init 36 mX2_init 0 := ⟨cb_X1_init_X2_init 36, wd_386, wd_387⟩
theorem wd_406 : Cond.fieldLink RX1 37 RX1 "afterTurns" "LTurntableHouse$StateQueue;" ∈ am_T := am_T_in 406 (by decide +kernel) (by decide +kernel)
theorem fp_X1_37 : am_fp RX1 37 1 6 (.object "TurntableHouse$StateQueue") true := ⟨RX1, TX1, 13, tyX1, cl_X1, Nat.le_of_ble_eq_true rfl, rfl, rfl, rfl, Or.inl ⟨wd_406, fun _ => rfl⟩⟩
theorem wd_407 : Cond.fieldLink RX1 41 RX1 "afterMovements" "LTurntableHouse$StateQueue;" ∈ am_T := am_T_in 407 (by decide +kernel) (by decide +kernel)
theorem fp_X1_41 : am_fp RX1 41 1 7 (.object "TurntableHouse$StateQueue") true := ⟨RX1, TX1, 13, tyX1, cl_X1, Nat.le_of_ble_eq_true rfl, rfl, rfl, rfl, Or.inl ⟨wd_407, fun _ => rfl⟩⟩
theorem bc_m11 : (Int8.ofInt (-11)).toInt32 = (-11) := by decide +kernel
theorem wd_411 : Cond.fieldLink RX1 44 RX1 "goalLocomotive" "I" ∈ am_T := am_T_in 411 (by decide +kernel) (by decide +kernel)
theorem fp_X1_44 : am_fp RX1 44 1 11 .int false := ⟨RX1, TX1, 13, tyX1, cl_X1, Nat.le_of_ble_eq_true rfl, rfl, rfl, rfl, Or.inl ⟨wd_411, fun _ => rfl⟩⟩
theorem wd_412 : Cond.fieldLink RX1 48 RX1 "goalPosition" "I" ∈ am_T := am_T_in 412 (by decide +kernel) (by decide +kernel)
theorem fp_X1_48 : am_fp RX1 48 1 12 .int false := ⟨RX1, TX1, 13, tyX1, cl_X1, Nat.le_of_ble_eq_true rfl, rfl, rfl, rfl, Or.inl ⟨wd_412, fun _ => rfl⟩⟩
def mX5_init : am_M := (yX5_init, cX5_init, 1, none, 1, 20)
theorem pn_X5 : plainName RX5 = true := by decide +kernel
theorem pf_X5_init : plainFor yX5_init = true := by unfold plainFor; rw [show plainName yX5_init.cls = true from pn_X5]; rfl
theorem wd_594 : Cond.methodLink RX5 1 objectInit ∈ am_T := am_T_in 594 (by decide +kernel) (by decide +kernel)
theorem sc_148 : (Int16.ofInt 148).toInt32 = 148 := by decide +kernel
theorem cl_X5 : am_cls 5 RX5 TX5 32 tyX5 := ⟨rfl, am_sub_r _ [627, 629, 631, 633, 635, 637, 639, 641, 643, 645, 647, 649, 651, 653, 655, 657, 659, 661, 663, 665, 667, 669, 671, 673, 675, 677, 679, 681, 683, 685, 687, 689] (by decide +kernel) (by decide +kernel), tyX5_ok, nmX5⟩
theorem wd_595 : Cond.fieldLink RX5 7 RX5 "at" "[I" ∈ am_T := am_T_in 595 (by decide +kernel) (by decide +kernel)
theorem fp_X5_7 : am_fp RX5 7 5 0 (.array .int) true := ⟨RX5, TX5, 32, tyX5, cl_X5, Nat.le_of_ble_eq_true rfl, rfl, rfl, rfl, Or.inl ⟨wd_595, fun _ => rfl⟩⟩
theorem sc_296 : (Int16.ofInt 296).toInt32 = 296 := by decide +kernel
theorem wd_596 : Cond.fieldLink RX5 13 RX5 "slots" "[I" ∈ am_T := am_T_in 596 (by decide +kernel) (by decide +kernel)
theorem fp_X5_13 : am_fp RX5 13 5 1 (.array .int) true := ⟨RX5, TX5, 32, tyX5, cl_X5, Nat.le_of_ble_eq_true rfl, rfl, rfl, rfl, Or.inl ⟨wd_596, fun _ => rfl⟩⟩
theorem ic_2 : Int32.ofInt 2 = 2 := by decide +kernel
theorem wd_692 : Cond.arrayClass .boolean ∈ am_T := am_T_in 692 (by decide +kernel) (by decide +kernel)
theorem wd_597 : Cond.fieldLink RX5 16 RX5 "isSaved" "[Z" ∈ am_T := am_T_in 597 (by decide +kernel) (by decide +kernel)
theorem fp_X5_16 : am_fp RX5 16 5 2 (.array .boolean) true := ⟨RX5, TX5, 32, tyX5, cl_X5, Nat.le_of_ble_eq_true rfl, rfl, rfl, rfl, Or.inl ⟨wd_597, fun _ => rfl⟩⟩
theorem wd_600 : Cond.fieldLink RX5 20 RX5 "entries" "[I" ∈ am_T := am_T_in 600 (by decide +kernel) (by decide +kernel)
theorem fp_X5_20 : am_fp RX5 20 5 5 (.array .int) true := ⟨RX5, TX5, 32, tyX5, cl_X5, Nat.le_of_ble_eq_true rfl, rfl, rfl, rfl, Or.inl ⟨wd_600, fun _ => rfl⟩⟩
theorem wd_601 : Cond.fieldLink RX5 23 RX5 "laidFor" "I" ∈ am_T := am_T_in 601 (by decide +kernel) (by decide +kernel)
theorem fp_X5_23 : am_fp RX5 23 5 6 .int false := ⟨RX5, TX5, 32, tyX5, cl_X5, Nat.le_of_ble_eq_true rfl, rfl, rfl, rfl, Or.inl ⟨wd_601, fun _ => rfl⟩⟩
theorem bc_24 : (Int8.ofInt 24).toInt32 = 24 := by decide +kernel
theorem wd_603 : Cond.fieldLink RX5 27 RX5 "order" "[I" ∈ am_T := am_T_in 603 (by decide +kernel) (by decide +kernel)
theorem fp_X5_27 : am_fp RX5 27 5 8 (.array .int) true := ⟨RX5, TX5, 32, tyX5, cl_X5, Nat.le_of_ble_eq_true rfl, rfl, rfl, rfl, Or.inl ⟨wd_603, fun _ => rfl⟩⟩
theorem bc_64 : (Int8.ofInt 64).toInt32 = 64 := by decide +kernel
theorem wd_604 : Cond.fieldLink RX5 30 RX5 "orderOf" "[I" ∈ am_T := am_T_in 604 (by decide +kernel) (by decide +kernel)
theorem fp_X5_30 : am_fp RX5 30 5 9 (.array .int) true := ⟨RX5, TX5, 32, tyX5, cl_X5, Nat.le_of_ble_eq_true rfl, rfl, rfl, rfl, Or.inl ⟨wd_604, fun _ => rfl⟩⟩
theorem sc_336 : (Int16.ofInt 336).toInt32 = 336 := by decide +kernel
theorem wd_606 : Cond.fieldLink RX5 33 RX5 "way" "[I" ∈ am_T := am_T_in 606 (by decide +kernel) (by decide +kernel)
theorem fp_X5_33 : am_fp RX5 33 5 11 (.array .int) true := ⟨RX5, TX5, 32, tyX5, cl_X5, Nat.le_of_ble_eq_true rfl, rfl, rfl, rfl, Or.inl ⟨wd_606, fun _ => rfl⟩⟩
theorem sc_15625 : (Int16.ofInt 15625).toInt32 = 15625 := by decide +kernel
theorem wd_607 : Cond.fieldLink RX5 36 RX5 "wayOf" "[I" ∈ am_T := am_T_in 607 (by decide +kernel) (by decide +kernel)
theorem fp_X5_36 : am_fp RX5 36 5 12 (.array .int) true := ⟨RX5, TX5, 32, tyX5, cl_X5, Nat.le_of_ble_eq_true rfl, rfl, rfl, rfl, Or.inl ⟨wd_607, fun _ => rfl⟩⟩
theorem wd_609 : Cond.fieldLink RX5 39 RX5 "placeOfRow" "[I" ∈ am_T := am_T_in 609 (by decide +kernel) (by decide +kernel)
theorem fp_X5_39 : am_fp RX5 39 5 14 (.array .int) true := ⟨RX5, TX5, 32, tyX5, cl_X5, Nat.le_of_ble_eq_true rfl, rfl, rfl, rfl, Or.inl ⟨wd_609, fun _ => rfl⟩⟩
theorem wd_610 : Cond.fieldLink RX5 42 RX5 "rowOfPlace" "[I" ∈ am_T := am_T_in 610 (by decide +kernel) (by decide +kernel)
theorem fp_X5_42 : am_fp RX5 42 5 15 (.array .int) true := ⟨RX5, TX5, 32, tyX5, cl_X5, Nat.le_of_ble_eq_true rfl, rfl, rfl, rfl, Or.inl ⟨wd_610, fun _ => rfl⟩⟩
theorem wd_611 : Cond.fieldLink RX5 45 RX5 "rows" "[I" ∈ am_T := am_T_in 611 (by decide +kernel) (by decide +kernel)
theorem fp_X5_45 : am_fp RX5 45 5 16 (.array .int) true := ⟨RX5, TX5, 32, tyX5, cl_X5, Nat.le_of_ble_eq_true rfl, rfl, rfl, rfl, Or.inl ⟨wd_611, fun _ => rfl⟩⟩
theorem wd_612 : Cond.fieldLink RX5 48 RX5 "many" "[I" ∈ am_T := am_T_in 612 (by decide +kernel) (by decide +kernel)
theorem fp_X5_48 : am_fp RX5 48 5 17 (.array .int) true := ⟨RX5, TX5, 32, tyX5, cl_X5, Nat.le_of_ble_eq_true rfl, rfl, rfl, rfl, Or.inl ⟨wd_612, fun _ => rfl⟩⟩
theorem wd_614 : Cond.fieldLink RX5 51 RX5 "turnsTo" "[I" ∈ am_T := am_T_in 614 (by decide +kernel) (by decide +kernel)
theorem fp_X5_51 : am_fp RX5 51 5 19 (.array .int) true := ⟨RX5, TX5, 32, tyX5, cl_X5, Nat.le_of_ble_eq_true rfl, rfl, rfl, rfl, Or.inl ⟨wd_614, fun _ => rfl⟩⟩
theorem wd_615 : Cond.fieldLink RX5 54 RX5 "actionsTo" "[I" ∈ am_T := am_T_in 615 (by decide +kernel) (by decide +kernel)
theorem fp_X5_54 : am_fp RX5 54 5 20 (.array .int) true := ⟨RX5, TX5, 32, tyX5, cl_X5, Nat.le_of_ble_eq_true rfl, rfl, rfl, rfl, Or.inl ⟨wd_615, fun _ => rfl⟩⟩
theorem wd_616 : Cond.fieldLink RX5 57 RX5 "isDone" "[Z" ∈ am_T := am_T_in 616 (by decide +kernel) (by decide +kernel)
theorem fp_X5_57 : am_fp RX5 57 5 21 (.array .boolean) true := ⟨RX5, TX5, 32, tyX5, cl_X5, Nat.le_of_ble_eq_true rfl, rfl, rfl, rfl, Or.inl ⟨wd_616, fun _ => rfl⟩⟩
theorem wd_617 : Cond.fieldLink RX5 60 RX5 "turned" "[I" ∈ am_T := am_T_in 617 (by decide +kernel) (by decide +kernel)
theorem fp_X5_60 : am_fp RX5 60 5 22 (.array .int) true := ⟨RX5, TX5, 32, tyX5, cl_X5, Nat.le_of_ble_eq_true rfl, rfl, rfl, rfl, Or.inl ⟨wd_617, fun _ => rfl⟩⟩
theorem wd_618 : Cond.fieldLink RX5 63 RX5 "moved" "[I" ∈ am_T := am_T_in 618 (by decide +kernel) (by decide +kernel)
theorem fp_X5_63 : am_fp RX5 63 5 23 (.array .int) true := ⟨RX5, TX5, 32, tyX5, cl_X5, Nat.le_of_ble_eq_true rfl, rfl, rfl, rfl, Or.inl ⟨wd_618, fun _ => rfl⟩⟩
theorem wd_619 : Cond.fieldLink RX5 66 RX5 "done" "[I" ∈ am_T := am_T_in 619 (by decide +kernel) (by decide +kernel)
theorem fp_X5_66 : am_fp RX5 66 5 24 (.array .int) true := ⟨RX5, TX5, 32, tyX5, cl_X5, Nat.le_of_ble_eq_true rfl, rfl, rfl, rfl, Or.inl ⟨wd_619, fun _ => rfl⟩⟩
theorem wd_620 : Cond.fieldLink RX5 69 RX5 "turnedFor" "[I" ∈ am_T := am_T_in 620 (by decide +kernel) (by decide +kernel)
theorem fp_X5_69 : am_fp RX5 69 5 25 (.array .int) true := ⟨RX5, TX5, 32, tyX5, cl_X5, Nat.le_of_ble_eq_true rfl, rfl, rfl, rfl, Or.inl ⟨wd_620, fun _ => rfl⟩⟩
theorem wd_621 : Cond.fieldLink RX5 72 RX5 "movedFor" "[I" ∈ am_T := am_T_in 621 (by decide +kernel) (by decide +kernel)
theorem fp_X5_72 : am_fp RX5 72 5 26 (.array .int) true := ⟨RX5, TX5, 32, tyX5, cl_X5, Nat.le_of_ble_eq_true rfl, rfl, rfl, rfl, Or.inl ⟨wd_621, fun _ => rfl⟩⟩
theorem wd_622 : Cond.fieldLink RX5 75 RX5 "wasTurned" "[I" ∈ am_T := am_T_in 622 (by decide +kernel) (by decide +kernel)
theorem fp_X5_75 : am_fp RX5 75 5 27 (.array .int) true := ⟨RX5, TX5, 32, tyX5, cl_X5, Nat.le_of_ble_eq_true rfl, rfl, rfl, rfl, Or.inl ⟨wd_622, fun _ => rfl⟩⟩
theorem wd_623 : Cond.fieldLink RX5 78 RX5 "wasMoved" "[I" ∈ am_T := am_T_in 623 (by decide +kernel) (by decide +kernel)
theorem fp_X5_78 : am_fp RX5 78 5 28 (.array .int) true := ⟨RX5, TX5, 32, tyX5, cl_X5, Nat.le_of_ble_eq_true rfl, rfl, rfl, rfl, Or.inl ⟨wd_623, fun _ => rfl⟩⟩
theorem fl_X5_7 : am_fl RX5 7 5 0 := ⟨RX5, TX5, 32, tyX5, cl_X5, Nat.le_of_ble_eq_true rfl, rfl, Or.inl wd_595⟩
def mX4_init : am_M := (yX4_init, cX4_init, 1, none, 2, 40)
theorem pn_X4 : plainName RX4 = true := by decide +kernel
theorem pf_X4_init : plainFor yX4_init = true := by unfold plainFor; rw [show plainName yX4_init.cls = true from pn_X4]; rfl
theorem wd_70 : Cond.methodLink RX4 3 objectInit ∈ am_T := am_T_in 70 (by decide +kernel) (by decide +kernel)
theorem wd_73 : Cond.classLink RX4 9 RX3 ∈ am_T := am_T_in 73 (by decide +kernel) (by decide +kernel)
theorem cb_X4_init_X3_init (i : Nat) : am_cb mX4_init i mX3_init 0 := ⟨wd_77, wd_56, ⟨pl_X3.1, pl_X3.2, pd_X3_init⟩, Nat.le_of_ble_eq_true rfl, Nat.le_of_ble_eq_true rfl⟩
theorem wd_75 : Cond.methodLink RX4 11 yX3_init ∈ am_T := am_T_in 75 (by decide +kernel) (by decide +kernel)
theorem q_X4_init_11 : am_qI mX4_init 11 mX3_init 0 := ⟨cb_X4_init_X3_init 11, wd_75, wd_76⟩
theorem cl_X4 : am_cls 4 RX4 TX4 5 tyX4 := ⟨rfl, am_sub_r _ [129, 131, 133, 135, 137] (by decide +kernel) (by decide +kernel), tyX4_ok, nmX4⟩
theorem wd_124 : Cond.fieldLink RX4 12 RX4 "yard" "LTurntableHouse$Yard;" ∈ am_T := am_T_in 124 (by decide +kernel) (by decide +kernel)
theorem fp_X4_12 : am_fp RX4 12 4 0 (.object "TurntableHouse$Yard") true := ⟨RX4, TX4, 5, tyX4, cl_X4, Nat.le_of_ble_eq_true rfl, rfl, rfl, rfl, Or.inl ⟨wd_124, fun _ => rfl⟩⟩
theorem wd_125 : Cond.fieldLink RX4 16 RX4 "slots" "[LTurntableHouse$Yard;" ∈ am_T := am_T_in 125 (by decide +kernel) (by decide +kernel)
theorem fp_X4_16 : am_fp RX4 16 4 1 (.array (.object "TurntableHouse$Yard")) true := ⟨RX4, TX4, 5, tyX4, cl_X4, Nat.le_of_ble_eq_true rfl, rfl, rfl, rfl, Or.inl ⟨wd_125, fun _ => rfl⟩⟩
theorem wd_110 : Cond.classLink RX4 20 RX0 ∈ am_T := am_T_in 110 (by decide +kernel) (by decide +kernel)
theorem wd_111 : Cond.instantiable RX0 2 ∈ am_T := am_T_in 111 (by decide +kernel) (by decide +kernel)
theorem wd_57 : Cond.initialized RX0 ∈ am_T := am_T_in 57 (by decide +kernel) (by decide +kernel)
theorem pl_X0 : RX0 ≠ "java/lang/invoke/MethodHandle" ∧ RX0 ≠ "java/lang/invoke/VarHandle" := by decide +kernel
theorem pd_X0_init : (parseMethodDescriptor yX0_init.desc).map (fun d => d.parameters.length) = some 0 := by decide +kernel
theorem wd_114 : Cond.code yX0_init cX0_init 1 none ∈ am_T := am_T_in 114 (by decide +kernel) (by decide +kernel)
theorem cb_X4_init_X0_init (i : Nat) : am_cb mX4_init i mX0_init 0 := ⟨wd_114, wd_57, ⟨pl_X0.1, pl_X0.2, pd_X0_init⟩, Nat.le_of_ble_eq_true rfl, Nat.le_of_ble_eq_true rfl⟩
theorem wd_112 : Cond.methodLink RX4 22 yX0_init ∈ am_T := am_T_in 112 (by decide +kernel) (by decide +kernel)
theorem wd_113 : Cond.instanceMethod yX0_init ∈ am_T := am_T_in 113 (by decide +kernel) (by decide +kernel)
theorem q_X4_init_22 : am_qI mX4_init 22 mX0_init 0 := ⟨cb_X4_init_X0_init 22, wd_112, wd_113⟩
theorem wd_126 : Cond.fieldLink RX4 23 RX4 "actions" "LTurntableHouse$ActionLog;" ∈ am_T := am_T_in 126 (by decide +kernel) (by decide +kernel)
theorem fp_X4_23 : am_fp RX4 23 4 2 (.object "TurntableHouse$ActionLog") true := ⟨RX4, TX4, 5, tyX4, cl_X4, Nat.le_of_ble_eq_true rfl, rfl, rfl, rfl, Or.inl ⟨wd_126, fun _ => rfl⟩⟩
theorem pf_J6_bitCount_0f7a4 : plainFor yJ6_bitCount_0f7a4 = true := by decide +kernel
def mJ6_bitCount_0f7a4 : am_M := (yJ6_bitCount_0f7a4, cJ6_bitCount_0f7a4, 1, some .int, 0, 0)
theorem wd_514 : Cond.constant RJ6 265 1431655765 ∈ am_T := am_T_in 514 (by decide +kernel) (by decide +kernel)
theorem wd_515 : Cond.constant RJ6 266 858993459 ∈ am_T := am_T_in 515 (by decide +kernel) (by decide +kernel)
theorem ic_4 : Int32.ofInt 4 = 4 := by decide +kernel
theorem wd_516 : Cond.constant RJ6 267 252645135 ∈ am_T := am_T_in 516 (by decide +kernel) (by decide +kernel)
theorem bc_16 : (Int8.ofInt 16).toInt32 = 16 := by decide +kernel
theorem bc_63 : (Int8.ofInt 63).toInt32 = 63 := by decide +kernel
theorem pf_J9_floorMod_7cf53 : plainFor yJ9_floorMod_7cf53 = true := by decide +kernel
def mJ9_floorMod_7cf53 : am_M := (yJ9_floorMod_7cf53, cJ9_floorMod_7cf53, 3, some .int, 0, 0)
theorem pf_J9_abs_0f7a4 : plainFor yJ9_abs_0f7a4 = true := by decide +kernel
def mJ9_abs_0f7a4 : am_M := (yJ9_abs_0f7a4, cJ9_abs_0f7a4, 1, some .int, 0, 0)
theorem pf_J9_max_7cf53 : plainFor yJ9_max_7cf53 = true := by decide +kernel
def mJ9_max_7cf53 : am_M := (yJ9_max_7cf53, cJ9_max_7cf53, 2, some .int, 0, 0)
theorem pf_J9_min_7cf53 : plainFor yJ9_min_7cf53 = true := by decide +kernel
def mJ9_min_7cf53 : am_M := (yJ9_min_7cf53, cJ9_min_7cf53, 2, some .int, 0, 0)
theorem pf_X4_isPosition : plainFor yX4_isPosition = true := by unfold plainFor; rw [show plainName yX4_isPosition.cls = true from pn_X4]; rfl
def mX4_isPosition : am_M := (yX4_isPosition, cX4_isPosition, 1, some .boolean, 0, 0)
theorem pf_X4_isEnd : plainFor yX4_isEnd = true := by unfold plainFor; rw [show plainName yX4_isEnd.cls = true from pn_X4]; rfl
def mX4_isEnd : am_M := (yX4_isEnd, cX4_isEnd, 1, some .boolean, 0, 0)
theorem pf_X4_isSlot : plainFor yX4_isSlot = true := by unfold plainFor; rw [show plainName yX4_isSlot.cls = true from pn_X4]; rfl
def mX4_isSlot : am_M := (yX4_isSlot, cX4_isSlot, 1, some .boolean, 0, 0)
theorem pf_X4_endOf : plainFor yX4_endOf = true := by unfold plainFor; rw [show plainName yX4_endOf.cls = true from pn_X4]; rfl
def mX4_endOf : am_M := (yX4_endOf, cX4_endOf, 1, some .int, 0, 0)
theorem bc_10 : (Int8.ofInt 10).toInt32 = 10 := by decide +kernel
theorem pf_X4_reverseOf : plainFor yX4_reverseOf = true := by unfold plainFor; rw [show plainName yX4_reverseOf.cls = true from pn_X4]; rfl
def mX4_reverseOf : am_M := (yX4_reverseOf, cX4_reverseOf, 1, some .int, 0, 0)
theorem bc_20 : (Int8.ofInt 20).toInt32 = 20 := by decide +kernel
theorem pf_X0_append : plainFor yX0_append = true := by unfold plainFor; rw [show plainName yX0_append.cls = true from pn_X0]; rfl
def mX0_append : am_M := (yX0_append, cX0_append, 3, none, 0, 0)
theorem wd_117 : Cond.fieldLink RX0 15 RX0 "count" "I" ∈ am_T := am_T_in 117 (by decide +kernel) (by decide +kernel)
theorem fl_X0_15 : am_fl RX0 15 0 1 := ⟨RX0, TX0, 2, tyX0, cl_X0, Nat.le_of_ble_eq_true rfl, rfl, Or.inl wd_117⟩
theorem fl_X0_9 : am_fl RX0 9 0 0 := ⟨RX0, TX0, 2, tyX0, cl_X0, Nat.le_of_ble_eq_true rfl, rfl, Or.inl wd_116⟩
theorem fp_X0_15 : am_fp RX0 15 0 1 .int false := ⟨RX0, TX0, 2, tyX0, cl_X0, Nat.le_of_ble_eq_true rfl, rfl, rfl, rfl, Or.inl ⟨wd_117, fun _ => rfl⟩⟩
theorem bc_39 : (Int8.ofInt 39).toInt32 = 39 := by decide +kernel
theorem pf_X0_forgetAll : plainFor yX0_forgetAll = true := by unfold plainFor; rw [show plainName yX0_forgetAll.cls = true from pn_X0]; rfl
def mX0_forgetAll : am_M := (yX0_forgetAll, cX0_forgetAll, 1, none, 0, 0)
theorem pf_X0_latest : plainFor yX0_latest = true := by unfold plainFor; rw [show plainName yX0_latest.cls = true from pn_X0]; rfl
def mX0_latest : am_M := (yX0_latest, cX0_latest, 2, some .int, 0, 0)
theorem pf_X0_removeLatest : plainFor yX0_removeLatest = true := by unfold plainFor; rw [show plainName yX0_removeLatest.cls = true from pn_X0]; rfl
def mX0_removeLatest : am_M := (yX0_removeLatest, cX0_removeLatest, 2, some .int, 1, 21)
theorem pd_X0_latest : (parseMethodDescriptor yX0_latest.desc).map (fun d => d.parameters.length) = some 1 := by decide +kernel
theorem wd_351 : Cond.code yX0_latest cX0_latest 2 (some .int) ∈ am_T := am_T_in 351 (by decide +kernel) (by decide +kernel)
theorem cb_X0_removeLatest_X0_latest (i : Nat) : am_cb mX0_removeLatest i mX0_latest 1 := ⟨wd_351, wd_57, ⟨pl_X0.1, pl_X0.2, pd_X0_latest⟩, Nat.le_of_ble_eq_true rfl, Nat.le_of_ble_eq_true rfl⟩
theorem wd_348 : Cond.methodLink RX0 19 yX0_latest ∈ am_T := am_T_in 348 (by decide +kernel) (by decide +kernel)
theorem wd_349 : Cond.instanceMethod yX0_latest ∈ am_T := am_T_in 349 (by decide +kernel) (by decide +kernel)
theorem wd_350 : Cond.selects RX0 yX0_latest yX0_latest ∈ am_T := am_T_in 350 (by decide +kernel) (by decide +kernel)
theorem q_X0_removeLatest_19 : am_qV mX0_removeLatest 19 mX0_latest 1 := ⟨cb_X0_removeLatest_X0_latest 19, wd_348, wd_349, wd_350⟩
theorem pf_X2_reset : plainFor yX2_reset = true := by unfold plainFor; rw [show plainName yX2_reset.cls = true from pn_X2]; rfl
def mX2_reset : am_M := (yX2_reset, cX2_reset, 1, none, 0, 0)
theorem wd_391 : Cond.fieldLink RX2 15 RX2 "head" "I" ∈ am_T := am_T_in 391 (by decide +kernel) (by decide +kernel)
theorem fp_X2_15 : am_fp RX2 15 2 1 .int false := ⟨RX2, TX2, 3, tyX2, cl_X2, Nat.le_of_ble_eq_true rfl, rfl, rfl, rfl, Or.inl ⟨wd_391, fun _ => rfl⟩⟩
theorem wd_392 : Cond.fieldLink RX2 19 RX2 "tail" "I" ∈ am_T := am_T_in 392 (by decide +kernel) (by decide +kernel)
theorem fp_X2_19 : am_fp RX2 19 2 2 .int false := ⟨RX2, TX2, 3, tyX2, cl_X2, Nat.le_of_ble_eq_true rfl, rfl, rfl, rfl, Or.inl ⟨wd_392, fun _ => rfl⟩⟩
theorem pf_X2_add : plainFor yX2_add = true := by unfold plainFor; rw [show plainName yX2_add.cls = true from pn_X2]; rfl
def mX2_add : am_M := (yX2_add, cX2_add, 2, none, 0, 0)
theorem fl_X2_19 : am_fl RX2 19 2 2 := ⟨RX2, TX2, 3, tyX2, cl_X2, Nat.le_of_ble_eq_true rfl, rfl, Or.inl wd_392⟩
theorem fl_X2_9 : am_fl RX2 9 2 0 := ⟨RX2, TX2, 3, tyX2, cl_X2, Nat.le_of_ble_eq_true rfl, rfl, Or.inl wd_390⟩
theorem pf_X2_first : plainFor yX2_first = true := by unfold plainFor; rw [show plainName yX2_first.cls = true from pn_X2]; rfl
def mX2_first : am_M := (yX2_first, cX2_first, 1, some .int, 0, 0)
theorem fl_X2_15 : am_fl RX2 15 2 1 := ⟨RX2, TX2, 3, tyX2, cl_X2, Nat.le_of_ble_eq_true rfl, rfl, Or.inl wd_391⟩
theorem pf_X2_removeFirst : plainFor yX2_removeFirst = true := by unfold plainFor; rw [show plainName yX2_removeFirst.cls = true from pn_X2]; rfl
def mX2_removeFirst : am_M := (yX2_removeFirst, cX2_removeFirst, 2, some .int, 1, 20)
theorem pd_X2_first : (parseMethodDescriptor yX2_first.desc).map (fun d => d.parameters.length) = some 0 := by decide +kernel
theorem wd_527 : Cond.code yX2_first cX2_first 1 (some .int) ∈ am_T := am_T_in 527 (by decide +kernel) (by decide +kernel)
theorem cb_X2_removeFirst_X2_first (i : Nat) : am_cb mX2_removeFirst i mX2_first 0 := ⟨wd_527, wd_61, ⟨pl_X2.1, pl_X2.2, pd_X2_first⟩, Nat.le_of_ble_eq_true rfl, Nat.le_of_ble_eq_true rfl⟩
theorem wd_536 : Cond.methodLink RX2 22 yX2_first ∈ am_T := am_T_in 536 (by decide +kernel) (by decide +kernel)
theorem wd_525 : Cond.instanceMethod yX2_first ∈ am_T := am_T_in 525 (by decide +kernel) (by decide +kernel)
theorem wd_526 : Cond.selects RX2 yX2_first yX2_first ∈ am_T := am_T_in 526 (by decide +kernel) (by decide +kernel)
theorem q_X2_removeFirst_22 : am_qV mX2_removeFirst 22 mX2_first 0 := ⟨cb_X2_removeFirst_X2_first 22, wd_536, wd_525, wd_526⟩
theorem pf_X3_copyFrom : plainFor yX3_copyFrom = true := by unfold plainFor; rw [show plainName yX3_copyFrom.cls = true from pn_X3]; rfl
def mX3_copyFrom : am_M := (yX3_copyFrom, cX3_copyFrom, 2, none, 1, 26)
theorem wd_448 : Cond.methodLink RX3 27 arraycopyName ∈ am_T := am_T_in 448 (by decide +kernel) (by decide +kernel)
theorem wd_450 : Cond.native arraycopyName ∈ am_T := am_T_in 450 (by decide +kernel) (by decide +kernel)
theorem wd_449 : Cond.static arraycopyName ∈ am_T := am_T_in 449 (by decide +kernel) (by decide +kernel)
theorem wd_62 : Cond.initialized RJ10 ∈ am_T := am_T_in 62 (by decide +kernel) (by decide +kernel)
theorem fl_X3_15 : am_fl RX3 15 3 1 := ⟨RX3, TX3, 8, tyX3, cl_X3, Nat.le_of_ble_eq_true rfl, rfl, Or.inl wd_80⟩
theorem fl_X3_18 : am_fl RX3 18 3 2 := ⟨RX3, TX3, 8, tyX3, cl_X3, Nat.le_of_ble_eq_true rfl, rfl, Or.inl wd_81⟩
theorem fl_X3_21 : am_fl RX3 21 3 3 := ⟨RX3, TX3, 8, tyX3, cl_X3, Nat.le_of_ble_eq_true rfl, rfl, Or.inl wd_82⟩
theorem fl_X3_24 : am_fl RX3 24 3 4 := ⟨RX3, TX3, 8, tyX3, cl_X3, Nat.le_of_ble_eq_true rfl, rfl, Or.inl wd_83⟩
theorem wd_84 : Cond.fieldLink RX3 33 RX3 "locomotiveCount" "I" ∈ am_T := am_T_in 84 (by decide +kernel) (by decide +kernel)
theorem fl_X3_33 : am_fl RX3 33 3 5 := ⟨RX3, TX3, 8, tyX3, cl_X3, Nat.le_of_ble_eq_true rfl, rfl, Or.inl wd_84⟩
theorem fp_X3_33 : am_fp RX3 33 3 5 .int false := ⟨RX3, TX3, 8, tyX3, cl_X3, Nat.le_of_ble_eq_true rfl, rfl, rfl, rfl, Or.inl ⟨wd_84, fun _ => rfl⟩⟩
theorem wd_87 : Cond.fieldLink RX3 37 RX3 "deadBits" "I" ∈ am_T := am_T_in 87 (by decide +kernel) (by decide +kernel)
theorem fl_X3_37 : am_fl RX3 37 3 6 := ⟨RX3, TX3, 8, tyX3, cl_X3, Nat.le_of_ble_eq_true rfl, rfl, Or.inl wd_87⟩
theorem fp_X3_37 : am_fp RX3 37 3 6 .int false := ⟨RX3, TX3, 8, tyX3, cl_X3, Nat.le_of_ble_eq_true rfl, rfl, rfl, rfl, Or.inl ⟨wd_87, fun _ => rfl⟩⟩
theorem wd_88 : Cond.fieldLink RX3 40 RX3 "endA" "I" ∈ am_T := am_T_in 88 (by decide +kernel) (by decide +kernel)
theorem fl_X3_40 : am_fl RX3 40 3 7 := ⟨RX3, TX3, 8, tyX3, cl_X3, Nat.le_of_ble_eq_true rfl, rfl, Or.inl wd_88⟩
theorem fp_X3_40 : am_fp RX3 40 3 7 .int false := ⟨RX3, TX3, 8, tyX3, cl_X3, Nat.le_of_ble_eq_true rfl, rfl, rfl, rfl, Or.inl ⟨wd_88, fun _ => rfl⟩⟩
theorem pf_X3_isLocomotive : plainFor yX3_isLocomotive = true := by unfold plainFor; rw [show plainName yX3_isLocomotive.cls = true from pn_X3]; rfl
def mX3_isLocomotive : am_M := (yX3_isLocomotive, cX3_isLocomotive, 2, some .boolean, 0, 0)
theorem pf_X3_isAlive : plainFor yX3_isAlive = true := by unfold plainFor; rw [show plainName yX3_isAlive.cls = true from pn_X3]; rfl
def mX3_isAlive : am_M := (yX3_isAlive, cX3_isAlive, 2, some .boolean, 1, 21)
theorem pd_X3_isLocomotive : (parseMethodDescriptor yX3_isLocomotive.desc).map (fun d => d.parameters.length) = some 1 := by decide +kernel
theorem wd_200 : Cond.code yX3_isLocomotive cX3_isLocomotive 2 (some .boolean) ∈ am_T := am_T_in 200 (by decide +kernel) (by decide +kernel)
theorem cb_X3_isAlive_X3_isLocomotive (i : Nat) : am_cb mX3_isAlive i mX3_isLocomotive 1 := ⟨wd_200, wd_56, ⟨pl_X3.1, pl_X3.2, pd_X3_isLocomotive⟩, Nat.le_of_ble_eq_true rfl, Nat.le_of_ble_eq_true rfl⟩
theorem wd_197 : Cond.methodLink RX3 43 yX3_isLocomotive ∈ am_T := am_T_in 197 (by decide +kernel) (by decide +kernel)
theorem wd_198 : Cond.instanceMethod yX3_isLocomotive ∈ am_T := am_T_in 198 (by decide +kernel) (by decide +kernel)
theorem wd_199 : Cond.selects RX3 yX3_isLocomotive yX3_isLocomotive ∈ am_T := am_T_in 199 (by decide +kernel) (by decide +kernel)
theorem q_X3_isAlive_43 : am_qV mX3_isAlive 43 mX3_isLocomotive 1 := ⟨cb_X3_isAlive_X3_isLocomotive 43, wd_197, wd_198, wd_199⟩
theorem pf_X3_sizeOf : plainFor yX3_sizeOf = true := by unfold plainFor; rw [show plainName yX3_sizeOf.cls = true from pn_X3]; rfl
def mX3_sizeOf : am_M := (yX3_sizeOf, cX3_sizeOf, 2, some .int, 0, 0)
theorem pf_X3_lengthAt : plainFor yX3_lengthAt = true := by unfold plainFor; rw [show plainName yX3_lengthAt.cls = true from pn_X3]; rfl
def mX3_lengthAt : am_M := (yX3_lengthAt, cX3_lengthAt, 2, some .int, 0, 0)
theorem pf_X3_usedAt : plainFor yX3_usedAt = true := by unfold plainFor; rw [show plainName yX3_usedAt.cls = true from pn_X3]; rfl
def mX3_usedAt : am_M := (yX3_usedAt, cX3_usedAt, 2, some .int, 0, 0)
theorem pf_X3_freeAt : plainFor yX3_freeAt = true := by unfold plainFor; rw [show plainName yX3_freeAt.cls = true from pn_X3]; rfl
def mX3_freeAt : am_M := (yX3_freeAt, cX3_freeAt, 2, some .int, 1, 21)
theorem pd_X3_lengthAt : (parseMethodDescriptor yX3_lengthAt.desc).map (fun d => d.parameters.length) = some 1 := by decide +kernel
theorem wd_158 : Cond.code yX3_lengthAt cX3_lengthAt 2 (some .int) ∈ am_T := am_T_in 158 (by decide +kernel) (by decide +kernel)
theorem cb_X3_freeAt_X3_lengthAt (i : Nat) : am_cb mX3_freeAt i mX3_lengthAt 1 := ⟨wd_158, wd_56, ⟨pl_X3.1, pl_X3.2, pd_X3_lengthAt⟩, Nat.le_of_ble_eq_true rfl, Nat.le_of_ble_eq_true rfl⟩
theorem wd_187 : Cond.methodLink RX3 47 yX3_lengthAt ∈ am_T := am_T_in 187 (by decide +kernel) (by decide +kernel)
theorem wd_156 : Cond.instanceMethod yX3_lengthAt ∈ am_T := am_T_in 156 (by decide +kernel) (by decide +kernel)
theorem wd_157 : Cond.selects RX3 yX3_lengthAt yX3_lengthAt ∈ am_T := am_T_in 157 (by decide +kernel) (by decide +kernel)
theorem q_X3_freeAt_47 : am_qV mX3_freeAt 47 mX3_lengthAt 1 := ⟨cb_X3_freeAt_X3_lengthAt 47, wd_187, wd_156, wd_157⟩
theorem pd_X3_usedAt : (parseMethodDescriptor yX3_usedAt.desc).map (fun d => d.parameters.length) = some 1 := by decide +kernel
theorem wd_154 : Cond.code yX3_usedAt cX3_usedAt 2 (some .int) ∈ am_T := am_T_in 154 (by decide +kernel) (by decide +kernel)
theorem cb_X3_freeAt_X3_usedAt (i : Nat) : am_cb mX3_freeAt i mX3_usedAt 1 := ⟨wd_154, wd_56, ⟨pl_X3.1, pl_X3.2, pd_X3_usedAt⟩, Nat.le_of_ble_eq_true rfl, Nat.le_of_ble_eq_true rfl⟩
theorem wd_188 : Cond.methodLink RX3 51 yX3_usedAt ∈ am_T := am_T_in 188 (by decide +kernel) (by decide +kernel)
theorem wd_152 : Cond.instanceMethod yX3_usedAt ∈ am_T := am_T_in 152 (by decide +kernel) (by decide +kernel)
theorem wd_153 : Cond.selects RX3 yX3_usedAt yX3_usedAt ∈ am_T := am_T_in 153 (by decide +kernel) (by decide +kernel)
theorem q_X3_freeAt_51 : am_qV mX3_freeAt 51 mX3_usedAt 1 := ⟨cb_X3_freeAt_X3_usedAt 51, wd_188, wd_152, wd_153⟩
theorem pf_X3_countAt : plainFor yX3_countAt = true := by unfold plainFor; rw [show plainName yX3_countAt.cls = true from pn_X3]; rfl
def mX3_countAt : am_M := (yX3_countAt, cX3_countAt, 2, some .int, 0, 0)
theorem pf_X3_locomotiveAt : plainFor yX3_locomotiveAt = true := by unfold plainFor; rw [show plainName yX3_locomotiveAt.cls = true from pn_X3]; rfl
def mX3_locomotiveAt : am_M := (yX3_locomotiveAt, cX3_locomotiveAt, 3, some .int, 0, 0)
theorem pf_X3_indexIn : plainFor yX3_indexIn = true := by unfold plainFor; rw [show plainName yX3_indexIn.cls = true from pn_X3]; rfl
def mX3_indexIn : am_M := (yX3_indexIn, cX3_indexIn, 5, some .int, 1, 22)
theorem pd_X3_countAt : (parseMethodDescriptor yX3_countAt.desc).map (fun d => d.parameters.length) = some 1 := by decide +kernel
theorem wd_208 : Cond.code yX3_countAt cX3_countAt 2 (some .int) ∈ am_T := am_T_in 208 (by decide +kernel) (by decide +kernel)
theorem cb_X3_indexIn_X3_countAt (i : Nat) : am_cb mX3_indexIn i mX3_countAt 1 := ⟨wd_208, wd_56, ⟨pl_X3.1, pl_X3.2, pd_X3_countAt⟩, Nat.le_of_ble_eq_true rfl, Nat.le_of_ble_eq_true rfl⟩
theorem wd_205 : Cond.methodLink RX3 58 yX3_countAt ∈ am_T := am_T_in 205 (by decide +kernel) (by decide +kernel)
theorem wd_206 : Cond.instanceMethod yX3_countAt ∈ am_T := am_T_in 206 (by decide +kernel) (by decide +kernel)
theorem wd_207 : Cond.selects RX3 yX3_countAt yX3_countAt ∈ am_T := am_T_in 207 (by decide +kernel) (by decide +kernel)
theorem q_X3_indexIn_58 : am_qV mX3_indexIn 58 mX3_countAt 1 := ⟨cb_X3_indexIn_X3_countAt 58, wd_205, wd_206, wd_207⟩
theorem pd_X3_locomotiveAt : (parseMethodDescriptor yX3_locomotiveAt.desc).map (fun d => d.parameters.length) = some 2 := by decide +kernel
theorem wd_232 : Cond.code yX3_locomotiveAt cX3_locomotiveAt 3 (some .int) ∈ am_T := am_T_in 232 (by decide +kernel) (by decide +kernel)
theorem cb_X3_indexIn_X3_locomotiveAt (i : Nat) : am_cb mX3_indexIn i mX3_locomotiveAt 2 := ⟨wd_232, wd_56, ⟨pl_X3.1, pl_X3.2, pd_X3_locomotiveAt⟩, Nat.le_of_ble_eq_true rfl, Nat.le_of_ble_eq_true rfl⟩
theorem wd_229 : Cond.methodLink RX3 61 yX3_locomotiveAt ∈ am_T := am_T_in 229 (by decide +kernel) (by decide +kernel)
theorem wd_230 : Cond.instanceMethod yX3_locomotiveAt ∈ am_T := am_T_in 230 (by decide +kernel) (by decide +kernel)
theorem wd_231 : Cond.selects RX3 yX3_locomotiveAt yX3_locomotiveAt ∈ am_T := am_T_in 231 (by decide +kernel) (by decide +kernel)
theorem q_X3_indexIn_61 : am_qV mX3_indexIn 61 mX3_locomotiveAt 2 := ⟨cb_X3_indexIn_X3_locomotiveAt 61, wd_229, wd_230, wd_231⟩
theorem pf_X3_placeOf : plainFor yX3_placeOf = true := by unfold plainFor; rw [show plainName yX3_placeOf.cls = true from pn_X3]; rfl
def mX3_placeOf : am_M := (yX3_placeOf, cX3_placeOf, 3, some .int, 2, 46)
theorem pd_X3_indexIn : (parseMethodDescriptor yX3_indexIn.desc).map (fun d => d.parameters.length) = some 2 := by decide +kernel
theorem wd_228 : Cond.code yX3_indexIn cX3_indexIn 5 (some .int) ∈ am_T := am_T_in 228 (by decide +kernel) (by decide +kernel)
theorem cb_X3_placeOf_X3_indexIn (i : Nat) : am_cb mX3_placeOf i mX3_indexIn 2 := ⟨wd_228, wd_56, ⟨pl_X3.1, pl_X3.2, pd_X3_indexIn⟩, Nat.le_of_ble_eq_true rfl, Nat.le_of_ble_eq_true rfl⟩
theorem wd_225 : Cond.methodLink RX3 54 yX3_indexIn ∈ am_T := am_T_in 225 (by decide +kernel) (by decide +kernel)
theorem wd_226 : Cond.instanceMethod yX3_indexIn ∈ am_T := am_T_in 226 (by decide +kernel) (by decide +kernel)
theorem wd_227 : Cond.selects RX3 yX3_indexIn yX3_indexIn ∈ am_T := am_T_in 227 (by decide +kernel) (by decide +kernel)
theorem q_X3_placeOf_54 : am_qV mX3_placeOf 54 mX3_indexIn 2 := ⟨cb_X3_placeOf_X3_indexIn 54, wd_225, wd_226, wd_227⟩
theorem pf_X3_trackCount : plainFor yX3_trackCount = true := by unfold plainFor; rw [show plainName yX3_trackCount.cls = true from pn_X3]; rfl
def mX3_trackCount : am_M := (yX3_trackCount, cX3_trackCount, 3, some .int, 0, 0)
theorem pf_X3_positionAt : plainFor yX3_positionAt = true := by unfold plainFor; rw [show plainName yX3_positionAt.cls = true from pn_X3]; rfl
def mX3_positionAt : am_M := (yX3_positionAt, cX3_positionAt, 2, some .int, 0, 0)
theorem nz_12 : ¬ (12 : Int32) = 0 := by decide +kernel
theorem pf_X3_setLength : plainFor yX3_setLength = true := by unfold plainFor; rw [show plainName yX3_setLength.cls = true from pn_X3]; rfl
def mX3_setLength : am_M := (yX3_setLength, cX3_setLength, 3, none, 0, 0)
theorem pf_X3_markDead : plainFor yX3_markDead = true := by unfold plainFor; rw [show plainName yX3_markDead.cls = true from pn_X3]; rfl
def mX3_markDead : am_M := (yX3_markDead, cX3_markDead, 4, none, 1, 21)
theorem cb_X3_markDead_X3_isLocomotive (i : Nat) : am_cb mX3_markDead i mX3_isLocomotive 1 := ⟨wd_200, wd_56, ⟨pl_X3.1, pl_X3.2, pd_X3_isLocomotive⟩, Nat.le_of_ble_eq_true rfl, Nat.le_of_ble_eq_true rfl⟩
theorem q_X3_markDead_43 : am_qV mX3_markDead 43 mX3_isLocomotive 1 := ⟨cb_X3_markDead_X3_isLocomotive 43, wd_197, wd_198, wd_199⟩
theorem ic_m1 : Int32.ofInt (-1) = (-1) := by decide +kernel
theorem pf_X3_putIn : plainFor yX3_putIn = true := by unfold plainFor; rw [show plainName yX3_putIn.cls = true from pn_X3]; rfl
def mX3_putIn : am_M := (yX3_putIn, cX3_putIn, 7, none, 1, 21)
theorem cb_X3_putIn_X3_countAt (i : Nat) : am_cb mX3_putIn i mX3_countAt 1 := ⟨wd_208, wd_56, ⟨pl_X3.1, pl_X3.2, pd_X3_countAt⟩, Nat.le_of_ble_eq_true rfl, Nat.le_of_ble_eq_true rfl⟩
theorem q_X3_putIn_58 : am_qV mX3_putIn 58 mX3_countAt 1 := ⟨cb_X3_putIn_X3_countAt 58, wd_205, wd_206, wd_207⟩
theorem pd_X3_sizeOf : (parseMethodDescriptor yX3_sizeOf.desc).map (fun d => d.parameters.length) = some 1 := by decide +kernel
theorem wd_212 : Cond.code yX3_sizeOf cX3_sizeOf 2 (some .int) ∈ am_T := am_T_in 212 (by decide +kernel) (by decide +kernel)
theorem cb_X3_putIn_X3_sizeOf (i : Nat) : am_cb mX3_putIn i mX3_sizeOf 1 := ⟨wd_212, wd_56, ⟨pl_X3.1, pl_X3.2, pd_X3_sizeOf⟩, Nat.le_of_ble_eq_true rfl, Nat.le_of_ble_eq_true rfl⟩
theorem wd_209 : Cond.methodLink RX3 78 yX3_sizeOf ∈ am_T := am_T_in 209 (by decide +kernel) (by decide +kernel)
theorem wd_210 : Cond.instanceMethod yX3_sizeOf ∈ am_T := am_T_in 210 (by decide +kernel) (by decide +kernel)
theorem wd_211 : Cond.selects RX3 yX3_sizeOf yX3_sizeOf ∈ am_T := am_T_in 211 (by decide +kernel) (by decide +kernel)
theorem q_X3_putIn_78 : am_qV mX3_putIn 78 mX3_sizeOf 1 := ⟨cb_X3_putIn_X3_sizeOf 78, wd_209, wd_210, wd_211⟩
theorem pf_X3_addFirst : plainFor yX3_addFirst = true := by unfold plainFor; rw [show plainName yX3_addFirst.cls = true from pn_X3]; rfl
def mX3_addFirst : am_M := (yX3_addFirst, cX3_addFirst, 4, some .int, 2, 47)
theorem bc_m9 : (Int8.ofInt (-9)).toInt32 = (-9) := by decide +kernel
theorem pd_X3_markDead : (parseMethodDescriptor yX3_markDead.desc).map (fun d => d.parameters.length) = some 2 := by decide +kernel
theorem wd_196 : Cond.code yX3_markDead cX3_markDead 4 none ∈ am_T := am_T_in 196 (by decide +kernel) (by decide +kernel)
theorem cb_X3_addFirst_X3_markDead (i : Nat) : am_cb mX3_addFirst i mX3_markDead 2 := ⟨wd_196, wd_56, ⟨pl_X3.1, pl_X3.2, pd_X3_markDead⟩, Nat.le_of_ble_eq_true rfl, Nat.le_of_ble_eq_true rfl⟩
theorem wd_193 : Cond.methodLink RX3 64 yX3_markDead ∈ am_T := am_T_in 193 (by decide +kernel) (by decide +kernel)
theorem wd_194 : Cond.instanceMethod yX3_markDead ∈ am_T := am_T_in 194 (by decide +kernel) (by decide +kernel)
theorem wd_195 : Cond.selects RX3 yX3_markDead yX3_markDead ∈ am_T := am_T_in 195 (by decide +kernel) (by decide +kernel)
theorem q_X3_addFirst_64 : am_qV mX3_addFirst 64 mX3_markDead 2 := ⟨cb_X3_addFirst_X3_markDead 64, wd_193, wd_194, wd_195⟩
theorem pd_X3_putIn : (parseMethodDescriptor yX3_putIn.desc).map (fun d => d.parameters.length) = some 3 := by decide +kernel
theorem wd_204 : Cond.code yX3_putIn cX3_putIn 7 none ∈ am_T := am_T_in 204 (by decide +kernel) (by decide +kernel)
theorem cb_X3_addFirst_X3_putIn (i : Nat) : am_cb mX3_addFirst i mX3_putIn 3 := ⟨wd_204, wd_56, ⟨pl_X3.1, pl_X3.2, pd_X3_putIn⟩, Nat.le_of_ble_eq_true rfl, Nat.le_of_ble_eq_true rfl⟩
theorem wd_201 : Cond.methodLink RX3 68 yX3_putIn ∈ am_T := am_T_in 201 (by decide +kernel) (by decide +kernel)
theorem wd_202 : Cond.instanceMethod yX3_putIn ∈ am_T := am_T_in 202 (by decide +kernel) (by decide +kernel)
theorem wd_203 : Cond.selects RX3 yX3_putIn yX3_putIn ∈ am_T := am_T_in 203 (by decide +kernel) (by decide +kernel)
theorem q_X3_addFirst_68 : am_qV mX3_addFirst 68 mX3_putIn 3 := ⟨cb_X3_addFirst_X3_putIn 68, wd_201, wd_202, wd_203⟩
theorem pf_X3_takeOut : plainFor yX3_takeOut = true := by unfold plainFor; rw [show plainName yX3_takeOut.cls = true from pn_X3]; rfl
def mX3_takeOut : am_M := (yX3_takeOut, cX3_takeOut, 6, some .int, 1, 22)
theorem cb_X3_takeOut_X3_locomotiveAt (i : Nat) : am_cb mX3_takeOut i mX3_locomotiveAt 2 := ⟨wd_232, wd_56, ⟨pl_X3.1, pl_X3.2, pd_X3_locomotiveAt⟩, Nat.le_of_ble_eq_true rfl, Nat.le_of_ble_eq_true rfl⟩
theorem q_X3_takeOut_61 : am_qV mX3_takeOut 61 mX3_locomotiveAt 2 := ⟨cb_X3_takeOut_X3_locomotiveAt 61, wd_229, wd_230, wd_231⟩
theorem cb_X3_takeOut_X3_sizeOf (i : Nat) : am_cb mX3_takeOut i mX3_sizeOf 1 := ⟨wd_212, wd_56, ⟨pl_X3.1, pl_X3.2, pd_X3_sizeOf⟩, Nat.le_of_ble_eq_true rfl, Nat.le_of_ble_eq_true rfl⟩
theorem q_X3_takeOut_78 : am_qV mX3_takeOut 78 mX3_sizeOf 1 := ⟨cb_X3_takeOut_X3_sizeOf 78, wd_209, wd_210, wd_211⟩
theorem pf_X3_removeNewest : plainFor yX3_removeNewest = true := by unfold plainFor; rw [show plainName yX3_removeNewest.cls = true from pn_X3]; rfl
def mX3_removeNewest : am_M := (yX3_removeNewest, cX3_removeNewest, 3, some .int, 3, 68)
theorem pd_X3_placeOf : (parseMethodDescriptor yX3_placeOf.desc).map (fun d => d.parameters.length) = some 1 := by decide +kernel
theorem wd_224 : Cond.code yX3_placeOf cX3_placeOf 3 (some .int) ∈ am_T := am_T_in 224 (by decide +kernel) (by decide +kernel)
theorem cb_X3_removeNewest_X3_placeOf (i : Nat) : am_cb mX3_removeNewest i mX3_placeOf 1 := ⟨wd_224, wd_56, ⟨pl_X3.1, pl_X3.2, pd_X3_placeOf⟩, Nat.le_of_ble_eq_true rfl, Nat.le_of_ble_eq_true rfl⟩
theorem wd_221 : Cond.methodLink RX3 72 yX3_placeOf ∈ am_T := am_T_in 221 (by decide +kernel) (by decide +kernel)
theorem wd_222 : Cond.instanceMethod yX3_placeOf ∈ am_T := am_T_in 222 (by decide +kernel) (by decide +kernel)
theorem wd_223 : Cond.selects RX3 yX3_placeOf yX3_placeOf ∈ am_T := am_T_in 223 (by decide +kernel) (by decide +kernel)
theorem q_X3_removeNewest_72 : am_qV mX3_removeNewest 72 mX3_placeOf 1 := ⟨cb_X3_removeNewest_X3_placeOf 72, wd_221, wd_222, wd_223⟩
theorem cb_X3_removeNewest_X3_indexIn (i : Nat) : am_cb mX3_removeNewest i mX3_indexIn 2 := ⟨wd_228, wd_56, ⟨pl_X3.1, pl_X3.2, pd_X3_indexIn⟩, Nat.le_of_ble_eq_true rfl, Nat.le_of_ble_eq_true rfl⟩
theorem q_X3_removeNewest_54 : am_qV mX3_removeNewest 54 mX3_indexIn 2 := ⟨cb_X3_removeNewest_X3_indexIn 54, wd_225, wd_226, wd_227⟩
theorem pd_X3_takeOut : (parseMethodDescriptor yX3_takeOut.desc).map (fun d => d.parameters.length) = some 2 := by decide +kernel
theorem wd_236 : Cond.code yX3_takeOut cX3_takeOut 6 (some .int) ∈ am_T := am_T_in 236 (by decide +kernel) (by decide +kernel)
theorem cb_X3_removeNewest_X3_takeOut (i : Nat) : am_cb mX3_removeNewest i mX3_takeOut 2 := ⟨wd_236, wd_56, ⟨pl_X3.1, pl_X3.2, pd_X3_takeOut⟩, Nat.le_of_ble_eq_true rfl, Nat.le_of_ble_eq_true rfl⟩
theorem wd_233 : Cond.methodLink RX3 75 yX3_takeOut ∈ am_T := am_T_in 233 (by decide +kernel) (by decide +kernel)
theorem wd_234 : Cond.instanceMethod yX3_takeOut ∈ am_T := am_T_in 234 (by decide +kernel) (by decide +kernel)
theorem wd_235 : Cond.selects RX3 yX3_takeOut yX3_takeOut ∈ am_T := am_T_in 235 (by decide +kernel) (by decide +kernel)
theorem q_X3_removeNewest_75 : am_qV mX3_removeNewest 75 mX3_takeOut 2 := ⟨cb_X3_removeNewest_X3_takeOut 75, wd_233, wd_234, wd_235⟩
theorem pf_X3_emptyRows : plainFor yX3_emptyRows = true := by unfold plainFor; rw [show plainName yX3_emptyRows.cls = true from pn_X3]; rfl
def mX3_emptyRows : am_M := (yX3_emptyRows, cX3_emptyRows, 1, none, 1, 23)
theorem pl_J7 : RJ7 ≠ "java/lang/invoke/MethodHandle" ∧ RJ7 ≠ "java/lang/invoke/VarHandle" := by decide +kernel
theorem pd_J7_fill_53178 : (parseMethodDescriptor yJ7_fill_53178.desc).map (fun d => d.parameters.length) = some 2 := by decide +kernel
theorem wd_466 : Cond.code yJ7_fill_53178 cJ7_fill_53178 4 none ∈ am_T := am_T_in 466 (by decide +kernel) (by decide +kernel)
theorem wd_63 : Cond.initialized RJ7 ∈ am_T := am_T_in 63 (by decide +kernel) (by decide +kernel)
theorem cb_X3_emptyRows_J7_fill_53178 (i : Nat) : am_cb mX3_emptyRows i mJ7_fill_53178 2 := ⟨wd_466, wd_63, ⟨pl_J7.1, pl_J7.2, pd_J7_fill_53178⟩, Nat.le_of_ble_eq_true rfl, Nat.le_of_ble_eq_true rfl⟩
theorem wd_483 : Cond.methodLink RX3 81 yJ7_fill_53178 ∈ am_T := am_T_in 483 (by decide +kernel) (by decide +kernel)
theorem wd_465 : Cond.static yJ7_fill_53178 ∈ am_T := am_T_in 465 (by decide +kernel) (by decide +kernel)
theorem q_X3_emptyRows_81 : am_qS mX3_emptyRows 81 mJ7_fill_53178 2 ∨ am_qN mX3_emptyRows 81 mJ7_fill_53178 2 := Or.inl ⟨cb_X3_emptyRows_J7_fill_53178 81, wd_483, wd_465⟩
theorem pf_X3_allFit : plainFor yX3_allFit = true := by unfold plainFor; rw [show plainName yX3_allFit.cls = true from pn_X3]; rfl
def mX3_allFit : am_M := (yX3_allFit, cX3_allFit, 2, some .boolean, 0, 0)
theorem pf_X3_sourceOf : plainFor yX3_sourceOf = true := by unfold plainFor; rw [show plainName yX3_sourceOf.cls = true from pn_X3]; rfl
def mX3_sourceOf : am_M := (yX3_sourceOf, cX3_sourceOf, 2, some .int, 1, 21)
theorem pl_X4 : RX4 ≠ "java/lang/invoke/MethodHandle" ∧ RX4 ≠ "java/lang/invoke/VarHandle" := by decide +kernel
theorem pd_X4_endOf : (parseMethodDescriptor yX4_endOf.desc).map (fun d => d.parameters.length) = some 1 := by decide +kernel
theorem wd_306 : Cond.code yX4_endOf cX4_endOf 1 (some .int) ∈ am_T := am_T_in 306 (by decide +kernel) (by decide +kernel)
theorem wd_55 : Cond.initialized RX4 ∈ am_T := am_T_in 55 (by decide +kernel) (by decide +kernel)
theorem cb_X3_sourceOf_X4_endOf (i : Nat) : am_cb mX3_sourceOf i mX4_endOf 1 := ⟨wd_306, wd_55, ⟨pl_X4.1, pl_X4.2, pd_X4_endOf⟩, Nat.le_of_ble_eq_true rfl, Nat.le_of_ble_eq_true rfl⟩
theorem wd_305 : Cond.static yX4_endOf ∈ am_T := am_T_in 305 (by decide +kernel) (by decide +kernel)
theorem q_X3_sourceOf_87 : am_qS mX3_sourceOf 87 mX4_endOf 1 ∨ am_qN mX3_sourceOf 87 mX4_endOf 1 := Or.inr ⟨cb_X3_sourceOf_X4_endOf 87, ⟨RX4, List.mem_of_getElem? (i := 5) rfl⟩, wd_305⟩
theorem pd_X3_positionAt : (parseMethodDescriptor yX3_positionAt.desc).map (fun d => d.parameters.length) = some 1 := by decide +kernel
theorem wd_284 : Cond.code yX3_positionAt cX3_positionAt 2 (some .int) ∈ am_T := am_T_in 284 (by decide +kernel) (by decide +kernel)
theorem cb_X3_sourceOf_X3_positionAt (i : Nat) : am_cb mX3_sourceOf i mX3_positionAt 1 := ⟨wd_284, wd_56, ⟨pl_X3.1, pl_X3.2, pd_X3_positionAt⟩, Nat.le_of_ble_eq_true rfl, Nat.le_of_ble_eq_true rfl⟩
theorem wd_307 : Cond.methodLink RX3 90 yX3_positionAt ∈ am_T := am_T_in 307 (by decide +kernel) (by decide +kernel)
theorem wd_282 : Cond.instanceMethod yX3_positionAt ∈ am_T := am_T_in 282 (by decide +kernel) (by decide +kernel)
theorem wd_283 : Cond.selects RX3 yX3_positionAt yX3_positionAt ∈ am_T := am_T_in 283 (by decide +kernel) (by decide +kernel)
theorem q_X3_sourceOf_90 : am_qV mX3_sourceOf 90 mX3_positionAt 1 := ⟨cb_X3_sourceOf_X3_positionAt 90, wd_307, wd_282, wd_283⟩
theorem pf_X3_targetOf : plainFor yX3_targetOf = true := by unfold plainFor; rw [show plainName yX3_targetOf.cls = true from pn_X3]; rfl
def mX3_targetOf : am_M := (yX3_targetOf, cX3_targetOf, 2, some .int, 1, 21)
theorem cb_X3_targetOf_X4_endOf (i : Nat) : am_cb mX3_targetOf i mX4_endOf 1 := ⟨wd_306, wd_55, ⟨pl_X4.1, pl_X4.2, pd_X4_endOf⟩, Nat.le_of_ble_eq_true rfl, Nat.le_of_ble_eq_true rfl⟩
theorem q_X3_targetOf_87 : am_qS mX3_targetOf 87 mX4_endOf 1 ∨ am_qN mX3_targetOf 87 mX4_endOf 1 := Or.inr ⟨cb_X3_targetOf_X4_endOf 87, ⟨RX4, List.mem_of_getElem? (i := 5) rfl⟩, wd_305⟩
theorem cb_X3_targetOf_X3_positionAt (i : Nat) : am_cb mX3_targetOf i mX3_positionAt 1 := ⟨wd_284, wd_56, ⟨pl_X3.1, pl_X3.2, pd_X3_positionAt⟩, Nat.le_of_ble_eq_true rfl, Nat.le_of_ble_eq_true rfl⟩
theorem q_X3_targetOf_90 : am_qV mX3_targetOf 90 mX3_positionAt 1 := ⟨cb_X3_targetOf_X3_positionAt 90, wd_307, wd_282, wd_283⟩
theorem pf_X3_movementError : plainFor yX3_movementError = true := by unfold plainFor; rw [show plainName yX3_movementError.cls = true from pn_X3]; rfl
def mX3_movementError : am_M := (yX3_movementError, cX3_movementError, 9, some .int, 2, 42)
theorem cb_X3_movementError_X4_endOf (i : Nat) : am_cb mX3_movementError i mX4_endOf 1 := ⟨wd_306, wd_55, ⟨pl_X4.1, pl_X4.2, pd_X4_endOf⟩, Nat.le_of_ble_eq_true rfl, Nat.le_of_ble_eq_true rfl⟩
theorem q_X3_movementError_87 : am_qS mX3_movementError 87 mX4_endOf 1 ∨ am_qN mX3_movementError 87 mX4_endOf 1 := Or.inr ⟨cb_X3_movementError_X4_endOf 87, ⟨RX4, List.mem_of_getElem? (i := 5) rfl⟩, wd_305⟩
theorem cb_X3_movementError_X3_positionAt (i : Nat) : am_cb mX3_movementError i mX3_positionAt 1 := ⟨wd_284, wd_56, ⟨pl_X3.1, pl_X3.2, pd_X3_positionAt⟩, Nat.le_of_ble_eq_true rfl, Nat.le_of_ble_eq_true rfl⟩
theorem q_X3_movementError_90 : am_qV mX3_movementError 90 mX3_positionAt 1 := ⟨cb_X3_movementError_X3_positionAt 90, wd_307, wd_282, wd_283⟩
theorem cb_X3_movementError_X3_lengthAt (i : Nat) : am_cb mX3_movementError i mX3_lengthAt 1 := ⟨wd_158, wd_56, ⟨pl_X3.1, pl_X3.2, pd_X3_lengthAt⟩, Nat.le_of_ble_eq_true rfl, Nat.le_of_ble_eq_true rfl⟩
theorem q_X3_movementError_47 : am_qV mX3_movementError 47 mX3_lengthAt 1 := ⟨cb_X3_movementError_X3_lengthAt 47, wd_187, wd_156, wd_157⟩
theorem bc_m2 : (Int8.ofInt (-2)).toInt32 = (-2) := by decide +kernel
theorem pd_X3_sourceOf : (parseMethodDescriptor yX3_sourceOf.desc).map (fun d => d.parameters.length) = some 1 := by decide +kernel
theorem wd_303 : Cond.code yX3_sourceOf cX3_sourceOf 2 (some .int) ∈ am_T := am_T_in 303 (by decide +kernel) (by decide +kernel)
theorem cb_X3_movementError_X3_sourceOf (i : Nat) : am_cb mX3_movementError i mX3_sourceOf 1 := ⟨wd_303, wd_56, ⟨pl_X3.1, pl_X3.2, pd_X3_sourceOf⟩, Nat.le_of_ble_eq_true rfl, Nat.le_of_ble_eq_true rfl⟩
theorem wd_300 : Cond.methodLink RX3 93 yX3_sourceOf ∈ am_T := am_T_in 300 (by decide +kernel) (by decide +kernel)
theorem wd_301 : Cond.instanceMethod yX3_sourceOf ∈ am_T := am_T_in 301 (by decide +kernel) (by decide +kernel)
theorem wd_302 : Cond.selects RX3 yX3_sourceOf yX3_sourceOf ∈ am_T := am_T_in 302 (by decide +kernel) (by decide +kernel)
theorem q_X3_movementError_93 : am_qV mX3_movementError 93 mX3_sourceOf 1 := ⟨cb_X3_movementError_X3_sourceOf 93, wd_300, wd_301, wd_302⟩
theorem cb_X3_movementError_X3_countAt (i : Nat) : am_cb mX3_movementError i mX3_countAt 1 := ⟨wd_208, wd_56, ⟨pl_X3.1, pl_X3.2, pd_X3_countAt⟩, Nat.le_of_ble_eq_true rfl, Nat.le_of_ble_eq_true rfl⟩
theorem q_X3_movementError_58 : am_qV mX3_movementError 58 mX3_countAt 1 := ⟨cb_X3_movementError_X3_countAt 58, wd_205, wd_206, wd_207⟩
theorem bc_m7 : (Int8.ofInt (-7)).toInt32 = (-7) := by decide +kernel
theorem pd_X3_targetOf : (parseMethodDescriptor yX3_targetOf.desc).map (fun d => d.parameters.length) = some 1 := by decide +kernel
theorem wd_311 : Cond.code yX3_targetOf cX3_targetOf 2 (some .int) ∈ am_T := am_T_in 311 (by decide +kernel) (by decide +kernel)
theorem cb_X3_movementError_X3_targetOf (i : Nat) : am_cb mX3_movementError i mX3_targetOf 1 := ⟨wd_311, wd_56, ⟨pl_X3.1, pl_X3.2, pd_X3_targetOf⟩, Nat.le_of_ble_eq_true rfl, Nat.le_of_ble_eq_true rfl⟩
theorem wd_308 : Cond.methodLink RX3 99 yX3_targetOf ∈ am_T := am_T_in 308 (by decide +kernel) (by decide +kernel)
theorem wd_309 : Cond.instanceMethod yX3_targetOf ∈ am_T := am_T_in 309 (by decide +kernel) (by decide +kernel)
theorem wd_310 : Cond.selects RX3 yX3_targetOf yX3_targetOf ∈ am_T := am_T_in 310 (by decide +kernel) (by decide +kernel)
theorem q_X3_movementError_99 : am_qV mX3_movementError 99 mX3_targetOf 1 := ⟨cb_X3_movementError_X3_targetOf 99, wd_308, wd_309, wd_310⟩
theorem pd_X3_freeAt : (parseMethodDescriptor yX3_freeAt.desc).map (fun d => d.parameters.length) = some 1 := by decide +kernel
theorem wd_186 : Cond.code yX3_freeAt cX3_freeAt 2 (some .int) ∈ am_T := am_T_in 186 (by decide +kernel) (by decide +kernel)
theorem cb_X3_movementError_X3_freeAt (i : Nat) : am_cb mX3_movementError i mX3_freeAt 1 := ⟨wd_186, wd_56, ⟨pl_X3.1, pl_X3.2, pd_X3_freeAt⟩, Nat.le_of_ble_eq_true rfl, Nat.le_of_ble_eq_true rfl⟩
theorem wd_329 : Cond.methodLink RX3 102 yX3_freeAt ∈ am_T := am_T_in 329 (by decide +kernel) (by decide +kernel)
theorem wd_184 : Cond.instanceMethod yX3_freeAt ∈ am_T := am_T_in 184 (by decide +kernel) (by decide +kernel)
theorem wd_185 : Cond.selects RX3 yX3_freeAt yX3_freeAt ∈ am_T := am_T_in 185 (by decide +kernel) (by decide +kernel)
theorem q_X3_movementError_102 : am_qV mX3_movementError 102 mX3_freeAt 1 := ⟨cb_X3_movementError_X3_freeAt 102, wd_329, wd_184, wd_185⟩
theorem bc_m8 : (Int8.ofInt (-8)).toInt32 = (-8) := by decide +kernel
theorem cb_X3_movementError_X3_locomotiveAt (i : Nat) : am_cb mX3_movementError i mX3_locomotiveAt 2 := ⟨wd_232, wd_56, ⟨pl_X3.1, pl_X3.2, pd_X3_locomotiveAt⟩, Nat.le_of_ble_eq_true rfl, Nat.le_of_ble_eq_true rfl⟩
theorem q_X3_movementError_61 : am_qV mX3_movementError 61 mX3_locomotiveAt 2 := ⟨cb_X3_movementError_X3_locomotiveAt 61, wd_229, wd_230, wd_231⟩
theorem cb_X3_movementError_X3_sizeOf (i : Nat) : am_cb mX3_movementError i mX3_sizeOf 1 := ⟨wd_212, wd_56, ⟨pl_X3.1, pl_X3.2, pd_X3_sizeOf⟩, Nat.le_of_ble_eq_true rfl, Nat.le_of_ble_eq_true rfl⟩
theorem q_X3_movementError_78 : am_qV mX3_movementError 78 mX3_sizeOf 1 := ⟨cb_X3_movementError_X3_sizeOf 78, wd_209, wd_210, wd_211⟩
theorem pd_X3_isAlive : (parseMethodDescriptor yX3_isAlive.desc).map (fun d => d.parameters.length) = some 1 := by decide +kernel
theorem wd_245 : Cond.code yX3_isAlive cX3_isAlive 2 (some .boolean) ∈ am_T := am_T_in 245 (by decide +kernel) (by decide +kernel)
theorem cb_X3_movementError_X3_isAlive (i : Nat) : am_cb mX3_movementError i mX3_isAlive 1 := ⟨wd_245, wd_56, ⟨pl_X3.1, pl_X3.2, pd_X3_isAlive⟩, Nat.le_of_ble_eq_true rfl, Nat.le_of_ble_eq_true rfl⟩
theorem wd_328 : Cond.methodLink RX3 96 yX3_isAlive ∈ am_T := am_T_in 328 (by decide +kernel) (by decide +kernel)
theorem wd_243 : Cond.instanceMethod yX3_isAlive ∈ am_T := am_T_in 243 (by decide +kernel) (by decide +kernel)
theorem wd_244 : Cond.selects RX3 yX3_isAlive yX3_isAlive ∈ am_T := am_T_in 244 (by decide +kernel) (by decide +kernel)
theorem q_X3_movementError_96 : am_qV mX3_movementError 96 mX3_isAlive 1 := ⟨cb_X3_movementError_X3_isAlive 96, wd_328, wd_243, wd_244⟩
theorem bc_m6 : (Int8.ofInt (-6)).toInt32 = (-6) := by decide +kernel
theorem pf_X3_shift : plainFor yX3_shift = true := by unfold plainFor; rw [show plainName yX3_shift.cls = true from pn_X3]; rfl
def mX3_shift : am_M := (yX3_shift, cX3_shift, 7, none, 2, 47)
theorem cb_X3_shift_X3_sourceOf (i : Nat) : am_cb mX3_shift i mX3_sourceOf 1 := ⟨wd_303, wd_56, ⟨pl_X3.1, pl_X3.2, pd_X3_sourceOf⟩, Nat.le_of_ble_eq_true rfl, Nat.le_of_ble_eq_true rfl⟩
theorem q_X3_shift_93 : am_qV mX3_shift 93 mX3_sourceOf 1 := ⟨cb_X3_shift_X3_sourceOf 93, wd_300, wd_301, wd_302⟩
theorem cb_X3_shift_X3_targetOf (i : Nat) : am_cb mX3_shift i mX3_targetOf 1 := ⟨wd_311, wd_56, ⟨pl_X3.1, pl_X3.2, pd_X3_targetOf⟩, Nat.le_of_ble_eq_true rfl, Nat.le_of_ble_eq_true rfl⟩
theorem q_X3_shift_99 : am_qV mX3_shift 99 mX3_targetOf 1 := ⟨cb_X3_shift_X3_targetOf 99, wd_308, wd_309, wd_310⟩
theorem cb_X3_shift_X3_countAt (i : Nat) : am_cb mX3_shift i mX3_countAt 1 := ⟨wd_208, wd_56, ⟨pl_X3.1, pl_X3.2, pd_X3_countAt⟩, Nat.le_of_ble_eq_true rfl, Nat.le_of_ble_eq_true rfl⟩
theorem q_X3_shift_58 : am_qV mX3_shift 58 mX3_countAt 1 := ⟨cb_X3_shift_X3_countAt 58, wd_205, wd_206, wd_207⟩
theorem cb_X3_shift_X3_takeOut (i : Nat) : am_cb mX3_shift i mX3_takeOut 2 := ⟨wd_236, wd_56, ⟨pl_X3.1, pl_X3.2, pd_X3_takeOut⟩, Nat.le_of_ble_eq_true rfl, Nat.le_of_ble_eq_true rfl⟩
theorem q_X3_shift_75 : am_qV mX3_shift 75 mX3_takeOut 2 := ⟨cb_X3_shift_X3_takeOut 75, wd_233, wd_234, wd_235⟩
theorem cb_X3_shift_X3_putIn (i : Nat) : am_cb mX3_shift i mX3_putIn 3 := ⟨wd_204, wd_56, ⟨pl_X3.1, pl_X3.2, pd_X3_putIn⟩, Nat.le_of_ble_eq_true rfl, Nat.le_of_ble_eq_true rfl⟩
theorem q_X3_shift_68 : am_qV mX3_shift 68 mX3_putIn 3 := ⟨cb_X3_shift_X3_putIn 68, wd_201, wd_202, wd_203⟩
theorem pf_X3_carryOut : plainFor yX3_carryOut = true := by unfold plainFor; rw [show plainName yX3_carryOut.cls = true from pn_X3]; rfl
def mX3_carryOut : am_M := (yX3_carryOut, cX3_carryOut, 2, none, 3, 73)
theorem nz_10 : ¬ (10 : Int32) = 0 := by decide +kernel
theorem pd_X3_shift : (parseMethodDescriptor yX3_shift.desc).map (fun d => d.parameters.length) = some 2 := by decide +kernel
theorem wd_299 : Cond.code yX3_shift cX3_shift 7 none ∈ am_T := am_T_in 299 (by decide +kernel) (by decide +kernel)
theorem cb_X3_carryOut_X3_shift (i : Nat) : am_cb mX3_carryOut i mX3_shift 2 := ⟨wd_299, wd_56, ⟨pl_X3.1, pl_X3.2, pd_X3_shift⟩, Nat.le_of_ble_eq_true rfl, Nat.le_of_ble_eq_true rfl⟩
theorem wd_296 : Cond.methodLink RX3 105 yX3_shift ∈ am_T := am_T_in 296 (by decide +kernel) (by decide +kernel)
theorem wd_297 : Cond.instanceMethod yX3_shift ∈ am_T := am_T_in 297 (by decide +kernel) (by decide +kernel)
theorem wd_298 : Cond.selects RX3 yX3_shift yX3_shift ∈ am_T := am_T_in 298 (by decide +kernel) (by decide +kernel)
theorem q_X3_carryOut_105 : am_qV mX3_carryOut 105 mX3_shift 2 := ⟨cb_X3_carryOut_X3_shift 105, wd_296, wd_297, wd_298⟩
theorem pf_X1_forgetGoal : plainFor yX1_forgetGoal = true := by unfold plainFor; rw [show plainName yX1_forgetGoal.cls = true from pn_X1]; rfl
def mX1_forgetGoal : am_M := (yX1_forgetGoal, cX1_forgetGoal, 1, none, 0, 0)
theorem pf_X1_listPlaces : plainFor yX1_listPlaces = true := by unfold plainFor; rw [show plainName yX1_listPlaces.cls = true from pn_X1]; rfl
def mX1_listPlaces : am_M := (yX1_listPlaces, cX1_listPlaces, 2, none, 1, 21)
theorem fl_X1_18 : am_fl RX1 18 1 1 := ⟨RX1, TX1, 13, tyX1, cl_X1, Nat.le_of_ble_eq_true rfl, rfl, Or.inl wd_401⟩
theorem wd_408 : Cond.fieldLink RX1 109 RX1 "placeCount" "I" ∈ am_T := am_T_in 408 (by decide +kernel) (by decide +kernel)
theorem fp_X1_109 : am_fp RX1 109 1 8 .int false := ⟨RX1, TX1, 13, tyX1, cl_X1, Nat.le_of_ble_eq_true rfl, rfl, rfl, rfl, Or.inl ⟨wd_408, fun _ => rfl⟩⟩
theorem fl_X1_12 : am_fl RX1 12 1 0 := ⟨RX1, TX1, 13, tyX1, cl_X1, Nat.le_of_ble_eq_true rfl, rfl, Or.inl wd_400⟩
theorem cb_X1_listPlaces_X3_lengthAt (i : Nat) : am_cb mX1_listPlaces i mX3_lengthAt 1 := ⟨wd_158, wd_56, ⟨pl_X3.1, pl_X3.2, pd_X3_lengthAt⟩, Nat.le_of_ble_eq_true rfl, Nat.le_of_ble_eq_true rfl⟩
theorem wd_455 : Cond.methodLink RX1 112 yX3_lengthAt ∈ am_T := am_T_in 455 (by decide +kernel) (by decide +kernel)
theorem q_X1_listPlaces_112 : am_qV mX1_listPlaces 112 mX3_lengthAt 1 := ⟨cb_X1_listPlaces_X3_lengthAt 112, wd_455, wd_156, wd_157⟩
theorem fl_X1_109 : am_fl RX1 109 1 8 := ⟨RX1, TX1, 13, tyX1, cl_X1, Nat.le_of_ble_eq_true rfl, rfl, Or.inl wd_408⟩
theorem pf_X1_waysToPut : plainFor yX1_waysToPut = true := by unfold plainFor; rw [show plainName yX1_waysToPut.cls = true from pn_X1]; rfl
def mX1_waysToPut : am_M := (yX1_waysToPut, cX1_waysToPut, 2, some .int, 1, 21)
theorem pl_J9 : RJ9 ≠ "java/lang/invoke/MethodHandle" ∧ RJ9 ≠ "java/lang/invoke/VarHandle" := by decide +kernel
theorem pd_J9_max_7cf53 : (parseMethodDescriptor yJ9_max_7cf53.desc).map (fun d => d.parameters.length) = some 2 := by decide +kernel
theorem wd_462 : Cond.code yJ9_max_7cf53 cJ9_max_7cf53 2 (some .int) ∈ am_T := am_T_in 462 (by decide +kernel) (by decide +kernel)
theorem wd_59 : Cond.initialized RJ9 ∈ am_T := am_T_in 59 (by decide +kernel) (by decide +kernel)
theorem cb_X1_waysToPut_J9_max_7cf53 (i : Nat) : am_cb mX1_waysToPut i mJ9_max_7cf53 2 := ⟨wd_462, wd_59, ⟨pl_J9.1, pl_J9.2, pd_J9_max_7cf53⟩, Nat.le_of_ble_eq_true rfl, Nat.le_of_ble_eq_true rfl⟩
theorem wd_460 : Cond.methodLink RX1 115 yJ9_max_7cf53 ∈ am_T := am_T_in 460 (by decide +kernel) (by decide +kernel)
theorem wd_461 : Cond.static yJ9_max_7cf53 ∈ am_T := am_T_in 461 (by decide +kernel) (by decide +kernel)
theorem q_X1_waysToPut_115 : am_qS mX1_waysToPut 115 mJ9_max_7cf53 2 ∨ am_qN mX1_waysToPut 115 mJ9_max_7cf53 2 := Or.inl ⟨cb_X1_waysToPut_J9_max_7cf53 115, wd_460, wd_461⟩
theorem pf_X1_putIntoLine : plainFor yX1_putIntoLine = true := by unfold plainFor; rw [show plainName yX1_putIntoLine.cls = true from pn_X1]; rfl
def mX1_putIntoLine : am_M := (yX1_putIntoLine, cX1_putIntoLine, 6, none, 2, 47)
theorem cb_X1_putIntoLine_X3_countAt (i : Nat) : am_cb mX1_putIntoLine i mX3_countAt 1 := ⟨wd_208, wd_56, ⟨pl_X3.1, pl_X3.2, pd_X3_countAt⟩, Nat.le_of_ble_eq_true rfl, Nat.le_of_ble_eq_true rfl⟩
theorem wd_488 : Cond.methodLink RX1 142 yX3_countAt ∈ am_T := am_T_in 488 (by decide +kernel) (by decide +kernel)
theorem q_X1_putIntoLine_142 : am_qV mX1_putIntoLine 142 mX3_countAt 1 := ⟨cb_X1_putIntoLine_X3_countAt 142, wd_488, wd_206, wd_207⟩
theorem cb_X1_putIntoLine_X3_putIn (i : Nat) : am_cb mX1_putIntoLine i mX3_putIn 3 := ⟨wd_204, wd_56, ⟨pl_X3.1, pl_X3.2, pd_X3_putIn⟩, Nat.le_of_ble_eq_true rfl, Nat.le_of_ble_eq_true rfl⟩
theorem wd_489 : Cond.methodLink RX1 145 yX3_putIn ∈ am_T := am_T_in 489 (by decide +kernel) (by decide +kernel)
theorem q_X1_putIntoLine_145 : am_qV mX1_putIntoLine 145 mX3_putIn 3 := ⟨cb_X1_putIntoLine_X3_putIn 145, wd_489, wd_202, wd_203⟩
theorem pf_X1_showRows : plainFor yX1_showRows = true := by unfold plainFor; rw [show plainName yX1_showRows.cls = true from pn_X1]; rfl
def mX1_showRows : am_M := (yX1_showRows, cX1_showRows, 5, none, 3, 72)
theorem pd_X3_emptyRows : (parseMethodDescriptor yX3_emptyRows.desc).map (fun d => d.parameters.length) = some 0 := by decide +kernel
theorem wd_482 : Cond.code yX3_emptyRows cX3_emptyRows 1 none ∈ am_T := am_T_in 482 (by decide +kernel) (by decide +kernel)
theorem cb_X1_showRows_X3_emptyRows (i : Nat) : am_cb mX1_showRows i mX3_emptyRows 0 := ⟨wd_482, wd_56, ⟨pl_X3.1, pl_X3.2, pd_X3_emptyRows⟩, Nat.le_of_ble_eq_true rfl, Nat.le_of_ble_eq_true rfl⟩
theorem wd_479 : Cond.methodLink RX1 135 yX3_emptyRows ∈ am_T := am_T_in 479 (by decide +kernel) (by decide +kernel)
theorem wd_480 : Cond.instanceMethod yX3_emptyRows ∈ am_T := am_T_in 480 (by decide +kernel) (by decide +kernel)
theorem wd_481 : Cond.selects RX3 yX3_emptyRows yX3_emptyRows ∈ am_T := am_T_in 481 (by decide +kernel) (by decide +kernel)
theorem q_X1_showRows_135 : am_qV mX1_showRows 135 mX3_emptyRows 0 := ⟨cb_X1_showRows_X3_emptyRows 135, wd_479, wd_480, wd_481⟩
theorem fl_X1_61 : am_fl RX1 61 3 5 := ⟨RX3, TX3, 8, tyX3, cl_X3, Nat.le_of_ble_eq_true rfl, rfl, Or.inr ⟨RX4, List.mem_of_getElem? (i := 0) rfl⟩⟩
theorem pl_X1 : RX1 ≠ "java/lang/invoke/MethodHandle" ∧ RX1 ≠ "java/lang/invoke/VarHandle" := by decide +kernel
theorem pd_X1_waysToPut : (parseMethodDescriptor yX1_waysToPut.desc).map (fun d => d.parameters.length) = some 1 := by decide +kernel
theorem wd_459 : Cond.code yX1_waysToPut cX1_waysToPut 2 (some .int) ∈ am_T := am_T_in 459 (by decide +kernel) (by decide +kernel)
theorem wd_60 : Cond.initialized RX1 ∈ am_T := am_T_in 60 (by decide +kernel) (by decide +kernel)
theorem cb_X1_showRows_X1_waysToPut (i : Nat) : am_cb mX1_showRows i mX1_waysToPut 1 := ⟨wd_459, wd_60, ⟨pl_X1.1, pl_X1.2, pd_X1_waysToPut⟩, Nat.le_of_ble_eq_true rfl, Nat.le_of_ble_eq_true rfl⟩
theorem wd_456 : Cond.methodLink RX1 64 yX1_waysToPut ∈ am_T := am_T_in 456 (by decide +kernel) (by decide +kernel)
theorem wd_458 : Cond.instanceMethod yX1_waysToPut ∈ am_T := am_T_in 458 (by decide +kernel) (by decide +kernel)
theorem wd_7 : Cond.selects RX1 yX1_waysToPut yX1_waysToPut ∈ am_T := am_T_in 7 (by decide +kernel) (by decide +kernel)
theorem q_X1_showRows_64 : am_qV mX1_showRows 64 mX1_waysToPut 1 := ⟨cb_X1_showRows_X1_waysToPut 64, wd_456, wd_458, wd_7⟩
theorem pd_X1_putIntoLine : (parseMethodDescriptor yX1_putIntoLine.desc).map (fun d => d.parameters.length) = some 2 := by decide +kernel
theorem wd_487 : Cond.code yX1_putIntoLine cX1_putIntoLine 6 none ∈ am_T := am_T_in 487 (by decide +kernel) (by decide +kernel)
theorem cb_X1_showRows_X1_putIntoLine (i : Nat) : am_cb mX1_showRows i mX1_putIntoLine 2 := ⟨wd_487, wd_60, ⟨pl_X1.1, pl_X1.2, pd_X1_putIntoLine⟩, Nat.le_of_ble_eq_true rfl, Nat.le_of_ble_eq_true rfl⟩
theorem wd_484 : Cond.methodLink RX1 138 yX1_putIntoLine ∈ am_T := am_T_in 484 (by decide +kernel) (by decide +kernel)
theorem wd_486 : Cond.instanceMethod yX1_putIntoLine ∈ am_T := am_T_in 486 (by decide +kernel) (by decide +kernel)
theorem wd_10 : Cond.selects RX1 yX1_putIntoLine yX1_putIntoLine ∈ am_T := am_T_in 10 (by decide +kernel) (by decide +kernel)
theorem q_X1_showRows_138 : am_qV mX1_showRows 138 mX1_putIntoLine 2 := ⟨cb_X1_showRows_X1_putIntoLine 138, wd_484, wd_486, wd_10⟩
theorem pf_X1_improve : plainFor yX1_improve = true := by unfold plainFor; rw [show plainName yX1_improve.cls = true from pn_X1]; rfl
def mX1_improve : am_M := (yX1_improve, cX1_improve, 4, none, 1, 21)
theorem wd_409 : Cond.fieldLink RX1 58 RX1 "stateCount" "I" ∈ am_T := am_T_in 409 (by decide +kernel) (by decide +kernel)
theorem fl_X1_58 : am_fl RX1 58 1 9 := ⟨RX1, TX1, 13, tyX1, cl_X1, Nat.le_of_ble_eq_true rfl, rfl, Or.inl wd_409⟩
theorem fl_X1_31 : am_fl RX1 31 1 5 := ⟨RX1, TX1, 13, tyX1, cl_X1, Nat.le_of_ble_eq_true rfl, rfl, Or.inl wd_405⟩
theorem pd_X2_add : (parseMethodDescriptor yX2_add.desc).map (fun d => d.parameters.length) = some 1 := by decide +kernel
theorem wd_502 : Cond.code yX2_add cX2_add 2 none ∈ am_T := am_T_in 502 (by decide +kernel) (by decide +kernel)
theorem cb_X1_improve_X2_add (i : Nat) : am_cb mX1_improve i mX2_add 1 := ⟨wd_502, wd_61, ⟨pl_X2.1, pl_X2.2, pd_X2_add⟩, Nat.le_of_ble_eq_true rfl, Nat.le_of_ble_eq_true rfl⟩
theorem wd_499 : Cond.methodLink RX1 190 yX2_add ∈ am_T := am_T_in 499 (by decide +kernel) (by decide +kernel)
theorem wd_500 : Cond.instanceMethod yX2_add ∈ am_T := am_T_in 500 (by decide +kernel) (by decide +kernel)
theorem wd_501 : Cond.selects RX2 yX2_add yX2_add ∈ am_T := am_T_in 501 (by decide +kernel) (by decide +kernel)
theorem q_X1_improve_190 : am_qV mX1_improve 190 mX2_add 1 := ⟨cb_X1_improve_X2_add 190, wd_499, wd_500, wd_501⟩
theorem pf_X1_addGoals : plainFor yX1_addGoals = true := by unfold plainFor; rw [show plainName yX1_addGoals.cls = true from pn_X1]; rfl
def mX1_addGoals : am_M := (yX1_addGoals, cX1_addGoals, 3, none, 4, 96)
theorem pd_X1_showRows : (parseMethodDescriptor yX1_showRows.desc).map (fun d => d.parameters.length) = some 1 := by decide +kernel
theorem wd_478 : Cond.code yX1_showRows cX1_showRows 5 none ∈ am_T := am_T_in 478 (by decide +kernel) (by decide +kernel)
theorem cb_X1_addGoals_X1_showRows (i : Nat) : am_cb mX1_addGoals i mX1_showRows 1 := ⟨wd_478, wd_60, ⟨pl_X1.1, pl_X1.2, pd_X1_showRows⟩, Nat.le_of_ble_eq_true rfl, Nat.le_of_ble_eq_true rfl⟩
theorem wd_475 : Cond.methodLink RX1 121 yX1_showRows ∈ am_T := am_T_in 475 (by decide +kernel) (by decide +kernel)
theorem wd_477 : Cond.instanceMethod yX1_showRows ∈ am_T := am_T_in 477 (by decide +kernel) (by decide +kernel)
theorem wd_9 : Cond.selects RX1 yX1_showRows yX1_showRows ∈ am_T := am_T_in 9 (by decide +kernel) (by decide +kernel)
theorem q_X1_addGoals_121 : am_qV mX1_addGoals 121 mX1_showRows 1 := ⟨cb_X1_addGoals_X1_showRows 121, wd_475, wd_477, wd_9⟩
theorem fl_X1_48 : am_fl RX1 48 1 12 := ⟨RX1, TX1, 13, tyX1, cl_X1, Nat.le_of_ble_eq_true rfl, rfl, Or.inl wd_412⟩
theorem cb_X1_addGoals_X3_locomotiveAt (i : Nat) : am_cb mX1_addGoals i mX3_locomotiveAt 2 := ⟨wd_232, wd_56, ⟨pl_X3.1, pl_X3.2, pd_X3_locomotiveAt⟩, Nat.le_of_ble_eq_true rfl, Nat.le_of_ble_eq_true rfl⟩
theorem wd_490 : Cond.methodLink RX1 124 yX3_locomotiveAt ∈ am_T := am_T_in 490 (by decide +kernel) (by decide +kernel)
theorem q_X1_addGoals_124 : am_qV mX1_addGoals 124 mX3_locomotiveAt 2 := ⟨cb_X1_addGoals_X3_locomotiveAt 124, wd_490, wd_230, wd_231⟩
theorem fl_X1_44 : am_fl RX1 44 1 11 := ⟨RX1, TX1, 13, tyX1, cl_X1, Nat.le_of_ble_eq_true rfl, rfl, Or.inl wd_411⟩
theorem pd_X3_allFit : (parseMethodDescriptor yX3_allFit.desc).map (fun d => d.parameters.length) = some 0 := by decide +kernel
theorem wd_494 : Cond.code yX3_allFit cX3_allFit 2 (some .boolean) ∈ am_T := am_T_in 494 (by decide +kernel) (by decide +kernel)
theorem cb_X1_addGoals_X3_allFit (i : Nat) : am_cb mX1_addGoals i mX3_allFit 0 := ⟨wd_494, wd_56, ⟨pl_X3.1, pl_X3.2, pd_X3_allFit⟩, Nat.le_of_ble_eq_true rfl, Nat.le_of_ble_eq_true rfl⟩
theorem wd_491 : Cond.methodLink RX1 127 yX3_allFit ∈ am_T := am_T_in 491 (by decide +kernel) (by decide +kernel)
theorem wd_492 : Cond.instanceMethod yX3_allFit ∈ am_T := am_T_in 492 (by decide +kernel) (by decide +kernel)
theorem wd_493 : Cond.selects RX3 yX3_allFit yX3_allFit ∈ am_T := am_T_in 493 (by decide +kernel) (by decide +kernel)
theorem q_X1_addGoals_127 : am_qV mX1_addGoals 127 mX3_allFit 0 := ⟨cb_X1_addGoals_X3_allFit 127, wd_491, wd_492, wd_493⟩
theorem ic_12 : Int32.ofInt 12 = 12 := by decide +kernel
theorem fl_X1_41 : am_fl RX1 41 1 7 := ⟨RX1, TX1, 13, tyX1, cl_X1, Nat.le_of_ble_eq_true rfl, rfl, Or.inl wd_407⟩
theorem pd_X1_improve : (parseMethodDescriptor yX1_improve.desc).map (fun d => d.parameters.length) = some 3 := by decide +kernel
theorem wd_498 : Cond.code yX1_improve cX1_improve 4 none ∈ am_T := am_T_in 498 (by decide +kernel) (by decide +kernel)
theorem cb_X1_addGoals_X1_improve (i : Nat) : am_cb mX1_addGoals i mX1_improve 3 := ⟨wd_498, wd_60, ⟨pl_X1.1, pl_X1.2, pd_X1_improve⟩, Nat.le_of_ble_eq_true rfl, Nat.le_of_ble_eq_true rfl⟩
theorem wd_495 : Cond.methodLink RX1 131 yX1_improve ∈ am_T := am_T_in 495 (by decide +kernel) (by decide +kernel)
theorem wd_497 : Cond.instanceMethod yX1_improve ∈ am_T := am_T_in 497 (by decide +kernel) (by decide +kernel)
theorem wd_11 : Cond.selects RX1 yX1_improve yX1_improve ∈ am_T := am_T_in 11 (by decide +kernel) (by decide +kernel)
theorem q_X1_addGoals_131 : am_qV mX1_addGoals 131 mX1_improve 3 := ⟨cb_X1_addGoals_X1_improve 131, wd_495, wd_497, wd_11⟩
theorem pf_X1_aimAt : plainFor yX1_aimAt = true := by unfold plainFor; rw [show plainName yX1_aimAt.cls = true from pn_X1]; rfl
def mX1_aimAt : am_M := (yX1_aimAt, cX1_aimAt, 5, none, 5, 118)
theorem pd_X3_copyFrom : (parseMethodDescriptor yX3_copyFrom.desc).map (fun d => d.parameters.length) = some 1 := by decide +kernel
theorem wd_447 : Cond.code yX3_copyFrom cX3_copyFrom 2 none ∈ am_T := am_T_in 447 (by decide +kernel) (by decide +kernel)
theorem cb_X1_aimAt_X3_copyFrom (i : Nat) : am_cb mX1_aimAt i mX3_copyFrom 1 := ⟨wd_447, wd_56, ⟨pl_X3.1, pl_X3.2, pd_X3_copyFrom⟩, Nat.le_of_ble_eq_true rfl, Nat.le_of_ble_eq_true rfl⟩
theorem wd_444 : Cond.methodLink RX1 51 yX3_copyFrom ∈ am_T := am_T_in 444 (by decide +kernel) (by decide +kernel)
theorem wd_445 : Cond.instanceMethod yX3_copyFrom ∈ am_T := am_T_in 445 (by decide +kernel) (by decide +kernel)
theorem wd_446 : Cond.selects RX3 yX3_copyFrom yX3_copyFrom ∈ am_T := am_T_in 446 (by decide +kernel) (by decide +kernel)
theorem q_X1_aimAt_51 : am_qV mX1_aimAt 51 mX3_copyFrom 1 := ⟨cb_X1_aimAt_X3_copyFrom 51, wd_444, wd_445, wd_446⟩
theorem pd_X1_listPlaces : (parseMethodDescriptor yX1_listPlaces.desc).map (fun d => d.parameters.length) = some 0 := by decide +kernel
theorem wd_454 : Cond.code yX1_listPlaces cX1_listPlaces 2 none ∈ am_T := am_T_in 454 (by decide +kernel) (by decide +kernel)
theorem cb_X1_aimAt_X1_listPlaces (i : Nat) : am_cb mX1_aimAt i mX1_listPlaces 0 := ⟨wd_454, wd_60, ⟨pl_X1.1, pl_X1.2, pd_X1_listPlaces⟩, Nat.le_of_ble_eq_true rfl, Nat.le_of_ble_eq_true rfl⟩
theorem wd_451 : Cond.methodLink RX1 55 yX1_listPlaces ∈ am_T := am_T_in 451 (by decide +kernel) (by decide +kernel)
theorem wd_453 : Cond.instanceMethod yX1_listPlaces ∈ am_T := am_T_in 453 (by decide +kernel) (by decide +kernel)
theorem wd_6 : Cond.selects RX1 yX1_listPlaces yX1_listPlaces ∈ am_T := am_T_in 6 (by decide +kernel) (by decide +kernel)
theorem q_X1_aimAt_55 : am_qV mX1_aimAt 55 mX1_listPlaces 0 := ⟨cb_X1_aimAt_X1_listPlaces 55, wd_451, wd_453, wd_6⟩
theorem fp_X1_58 : am_fp RX1 58 1 9 .int false := ⟨RX1, TX1, 13, tyX1, cl_X1, Nat.le_of_ble_eq_true rfl, rfl, rfl, rfl, Or.inl ⟨wd_409, fun _ => rfl⟩⟩
theorem wd_463 : Cond.constant RX1 68 1000000000 ∈ am_T := am_T_in 463 (by decide +kernel) (by decide +kernel)
theorem cb_X1_aimAt_J7_fill_53178 (i : Nat) : am_cb mX1_aimAt i mJ7_fill_53178 2 := ⟨wd_466, wd_63, ⟨pl_J7.1, pl_J7.2, pd_J7_fill_53178⟩, Nat.le_of_ble_eq_true rfl, Nat.le_of_ble_eq_true rfl⟩
theorem wd_464 : Cond.methodLink RX1 69 yJ7_fill_53178 ∈ am_T := am_T_in 464 (by decide +kernel) (by decide +kernel)
theorem q_X1_aimAt_69 : am_qS mX1_aimAt 69 mJ7_fill_53178 2 ∨ am_qN mX1_aimAt 69 mJ7_fill_53178 2 := Or.inl ⟨cb_X1_aimAt_J7_fill_53178 69, wd_464, wd_465⟩
theorem fl_X1_37 : am_fl RX1 37 1 6 := ⟨RX1, TX1, 13, tyX1, cl_X1, Nat.le_of_ble_eq_true rfl, rfl, Or.inl wd_406⟩
theorem pd_X2_reset : (parseMethodDescriptor yX2_reset.desc).map (fun d => d.parameters.length) = some 0 := by decide +kernel
theorem wd_470 : Cond.code yX2_reset cX2_reset 1 none ∈ am_T := am_T_in 470 (by decide +kernel) (by decide +kernel)
theorem cb_X1_aimAt_X2_reset (i : Nat) : am_cb mX1_aimAt i mX2_reset 0 := ⟨wd_470, wd_61, ⟨pl_X2.1, pl_X2.2, pd_X2_reset⟩, Nat.le_of_ble_eq_true rfl, Nat.le_of_ble_eq_true rfl⟩
theorem wd_467 : Cond.methodLink RX1 75 yX2_reset ∈ am_T := am_T_in 467 (by decide +kernel) (by decide +kernel)
theorem wd_468 : Cond.instanceMethod yX2_reset ∈ am_T := am_T_in 468 (by decide +kernel) (by decide +kernel)
theorem wd_469 : Cond.selects RX2 yX2_reset yX2_reset ∈ am_T := am_T_in 469 (by decide +kernel) (by decide +kernel)
theorem q_X1_aimAt_75 : am_qV mX1_aimAt 75 mX2_reset 0 := ⟨cb_X1_aimAt_X2_reset 75, wd_467, wd_468, wd_469⟩
theorem pd_X1_addGoals : (parseMethodDescriptor yX1_addGoals.desc).map (fun d => d.parameters.length) = some 0 := by decide +kernel
theorem wd_474 : Cond.code yX1_addGoals cX1_addGoals 3 none ∈ am_T := am_T_in 474 (by decide +kernel) (by decide +kernel)
theorem cb_X1_aimAt_X1_addGoals (i : Nat) : am_cb mX1_aimAt i mX1_addGoals 0 := ⟨wd_474, wd_60, ⟨pl_X1.1, pl_X1.2, pd_X1_addGoals⟩, Nat.le_of_ble_eq_true rfl, Nat.le_of_ble_eq_true rfl⟩
theorem wd_471 : Cond.methodLink RX1 78 yX1_addGoals ∈ am_T := am_T_in 471 (by decide +kernel) (by decide +kernel)
theorem wd_473 : Cond.instanceMethod yX1_addGoals ∈ am_T := am_T_in 473 (by decide +kernel) (by decide +kernel)
theorem wd_8 : Cond.selects RX1 yX1_addGoals yX1_addGoals ∈ am_T := am_T_in 8 (by decide +kernel) (by decide +kernel)
theorem q_X1_aimAt_78 : am_qV mX1_aimAt 78 mX1_addGoals 0 := ⟨cb_X1_aimAt_X1_addGoals 78, wd_471, wd_473, wd_8⟩
theorem cb_X1_aimAt_X1_waysToPut (i : Nat) : am_cb mX1_aimAt i mX1_waysToPut 1 := ⟨wd_459, wd_60, ⟨pl_X1.1, pl_X1.2, pd_X1_waysToPut⟩, Nat.le_of_ble_eq_true rfl, Nat.le_of_ble_eq_true rfl⟩
theorem q_X1_aimAt_64 : am_qV mX1_aimAt 64 mX1_waysToPut 1 := ⟨cb_X1_aimAt_X1_waysToPut 64, wd_456, wd_458, wd_7⟩
theorem pf_X1_stateOf : plainFor yX1_stateOf = true := by unfold plainFor; rw [show plainName yX1_stateOf.cls = true from pn_X1]; rfl
def mX1_stateOf : am_M := (yX1_stateOf, cX1_stateOf, 8, some .int, 2, 42)
theorem pd_J9_min_7cf53 : (parseMethodDescriptor yJ9_min_7cf53.desc).map (fun d => d.parameters.length) = some 2 := by decide +kernel
theorem wd_519 : Cond.code yJ9_min_7cf53 cJ9_min_7cf53 2 (some .int) ∈ am_T := am_T_in 519 (by decide +kernel) (by decide +kernel)
theorem cb_X1_stateOf_J9_min_7cf53 (i : Nat) : am_cb mX1_stateOf i mJ9_min_7cf53 2 := ⟨wd_519, wd_59, ⟨pl_J9.1, pl_J9.2, pd_J9_min_7cf53⟩, Nat.le_of_ble_eq_true rfl, Nat.le_of_ble_eq_true rfl⟩
theorem wd_517 : Cond.methodLink RX1 154 yJ9_min_7cf53 ∈ am_T := am_T_in 517 (by decide +kernel) (by decide +kernel)
theorem wd_518 : Cond.static yJ9_min_7cf53 ∈ am_T := am_T_in 518 (by decide +kernel) (by decide +kernel)
theorem q_X1_stateOf_154 : am_qS mX1_stateOf 154 mJ9_min_7cf53 2 ∨ am_qN mX1_stateOf 154 mJ9_min_7cf53 2 := Or.inl ⟨cb_X1_stateOf_J9_min_7cf53 154, wd_517, wd_518⟩
theorem fl_X1_157 : am_fl RX1 157 3 7 := ⟨RX3, TX3, 8, tyX3, cl_X3, Nat.le_of_ble_eq_true rfl, rfl, Or.inr ⟨RX4, List.mem_of_getElem? (i := 2) rfl⟩⟩
theorem cb_X1_stateOf_X1_waysToPut (i : Nat) : am_cb mX1_stateOf i mX1_waysToPut 1 := ⟨wd_459, wd_60, ⟨pl_X1.1, pl_X1.2, pd_X1_waysToPut⟩, Nat.le_of_ble_eq_true rfl, Nat.le_of_ble_eq_true rfl⟩
theorem q_X1_stateOf_64 : am_qV mX1_stateOf 64 mX1_waysToPut 1 := ⟨cb_X1_stateOf_X1_waysToPut 64, wd_456, wd_458, wd_7⟩
theorem fl_X1_22 : am_fl RX1 22 1 2 := ⟨RX1, TX1, 13, tyX1, cl_X1, Nat.le_of_ble_eq_true rfl, rfl, Or.inl wd_402⟩
theorem cb_X1_stateOf_X3_countAt (i : Nat) : am_cb mX1_stateOf i mX3_countAt 1 := ⟨wd_208, wd_56, ⟨pl_X3.1, pl_X3.2, pd_X3_countAt⟩, Nat.le_of_ble_eq_true rfl, Nat.le_of_ble_eq_true rfl⟩
theorem q_X1_stateOf_142 : am_qV mX1_stateOf 142 mX3_countAt 1 := ⟨cb_X1_stateOf_X3_countAt 142, wd_488, wd_206, wd_207⟩
theorem cb_X1_stateOf_X3_locomotiveAt (i : Nat) : am_cb mX1_stateOf i mX3_locomotiveAt 2 := ⟨wd_232, wd_56, ⟨pl_X3.1, pl_X3.2, pd_X3_locomotiveAt⟩, Nat.le_of_ble_eq_true rfl, Nat.le_of_ble_eq_true rfl⟩
theorem q_X1_stateOf_124 : am_qV mX1_stateOf 124 mX3_locomotiveAt 2 := ⟨cb_X1_stateOf_X3_locomotiveAt 124, wd_490, wd_230, wd_231⟩
theorem pl_J6 : RJ6 ≠ "java/lang/invoke/MethodHandle" ∧ RJ6 ≠ "java/lang/invoke/VarHandle" := by decide +kernel
theorem pd_J6_bitCount_0f7a4 : (parseMethodDescriptor yJ6_bitCount_0f7a4.desc).map (fun d => d.parameters.length) = some 1 := by decide +kernel
theorem wd_513 : Cond.code yJ6_bitCount_0f7a4 cJ6_bitCount_0f7a4 1 (some .int) ∈ am_T := am_T_in 513 (by decide +kernel) (by decide +kernel)
theorem wd_64 : Cond.initialized RJ6 ∈ am_T := am_T_in 64 (by decide +kernel) (by decide +kernel)
theorem cb_X1_stateOf_J6_bitCount_0f7a4 (i : Nat) : am_cb mX1_stateOf i mJ6_bitCount_0f7a4 1 := ⟨wd_513, wd_64, ⟨pl_J6.1, pl_J6.2, pd_J6_bitCount_0f7a4⟩, Nat.le_of_ble_eq_true rfl, Nat.le_of_ble_eq_true rfl⟩
theorem wd_511 : Cond.methodLink RX1 149 yJ6_bitCount_0f7a4 ∈ am_T := am_T_in 511 (by decide +kernel) (by decide +kernel)
theorem wd_512 : Cond.static yJ6_bitCount_0f7a4 ∈ am_T := am_T_in 512 (by decide +kernel) (by decide +kernel)
theorem q_X1_stateOf_149 : am_qS mX1_stateOf 149 mJ6_bitCount_0f7a4 1 ∨ am_qN mX1_stateOf 149 mJ6_bitCount_0f7a4 1 := Or.inl ⟨cb_X1_stateOf_J6_bitCount_0f7a4 149, wd_511, wd_512⟩
theorem pf_X1_costOf : plainFor yX1_costOf = true := by unfold plainFor; rw [show plainName yX1_costOf.cls = true from pn_X1]; rfl
def mX1_costOf : am_M := (yX1_costOf, cX1_costOf, 2, some .int, 0, 0)
theorem pf_X1_nearerQueue : plainFor yX1_nearerQueue = true := by unfold plainFor; rw [show plainName yX1_nearerQueue.cls = true from pn_X1]; rfl
def mX1_nearerQueue : am_M := (yX1_nearerQueue, cX1_nearerQueue, 1, some (.object "TurntableHouse$StateQueue"), 1, 21)
theorem cb_X1_nearerQueue_X2_first (i : Nat) : am_cb mX1_nearerQueue i mX2_first 0 := ⟨wd_527, wd_61, ⟨pl_X2.1, pl_X2.2, pd_X2_first⟩, Nat.le_of_ble_eq_true rfl, Nat.le_of_ble_eq_true rfl⟩
theorem wd_524 : Cond.methodLink RX1 89 yX2_first ∈ am_T := am_T_in 524 (by decide +kernel) (by decide +kernel)
theorem q_X1_nearerQueue_89 : am_qV mX1_nearerQueue 89 mX2_first 0 := ⟨cb_X1_nearerQueue_X2_first 89, wd_524, wd_525, wd_526⟩
theorem pd_X1_costOf : (parseMethodDescriptor yX1_costOf.desc).map (fun d => d.parameters.length) = some 1 := by decide +kernel
theorem wd_531 : Cond.code yX1_costOf cX1_costOf 2 (some .int) ∈ am_T := am_T_in 531 (by decide +kernel) (by decide +kernel)
theorem cb_X1_nearerQueue_X1_costOf (i : Nat) : am_cb mX1_nearerQueue i mX1_costOf 1 := ⟨wd_531, wd_60, ⟨pl_X1.1, pl_X1.2, pd_X1_costOf⟩, Nat.le_of_ble_eq_true rfl, Nat.le_of_ble_eq_true rfl⟩
theorem wd_528 : Cond.methodLink RX1 93 yX1_costOf ∈ am_T := am_T_in 528 (by decide +kernel) (by decide +kernel)
theorem wd_530 : Cond.instanceMethod yX1_costOf ∈ am_T := am_T_in 530 (by decide +kernel) (by decide +kernel)
theorem wd_14 : Cond.selects RX1 yX1_costOf yX1_costOf ∈ am_T := am_T_in 14 (by decide +kernel) (by decide +kernel)
theorem q_X1_nearerQueue_93 : am_qV mX1_nearerQueue 93 mX1_costOf 1 := ⟨cb_X1_nearerQueue_X1_costOf 93, wd_528, wd_530, wd_14⟩
theorem pf_X1_addNeighbour : plainFor yX1_addNeighbour = true := by unfold plainFor; rw [show plainName yX1_addNeighbour.cls = true from pn_X1]; rfl
def mX1_addNeighbour : am_M := (yX1_addNeighbour, cX1_addNeighbour, 3, none, 0, 0)
theorem wd_410 : Cond.fieldLink RX1 160 RX1 "found" "I" ∈ am_T := am_T_in 410 (by decide +kernel) (by decide +kernel)
theorem fl_X1_160 : am_fl RX1 160 1 10 := ⟨RX1, TX1, 13, tyX1, cl_X1, Nat.le_of_ble_eq_true rfl, rfl, Or.inl wd_410⟩
theorem fl_X1_25 : am_fl RX1 25 1 3 := ⟨RX1, TX1, 13, tyX1, cl_X1, Nat.le_of_ble_eq_true rfl, rfl, Or.inl wd_403⟩
theorem fl_X1_28 : am_fl RX1 28 1 4 := ⟨RX1, TX1, 13, tyX1, cl_X1, Nat.le_of_ble_eq_true rfl, rfl, Or.inl wd_404⟩
theorem fp_X1_160 : am_fp RX1 160 1 10 .int false := ⟨RX1, TX1, 13, tyX1, cl_X1, Nat.le_of_ble_eq_true rfl, rfl, rfl, rfl, Or.inl ⟨wd_410, fun _ => rfl⟩⟩
theorem pf_X1_addMovements : plainFor yX1_addMovements = true := by unfold plainFor; rw [show plainName yX1_addMovements.cls = true from pn_X1]; rfl
def mX1_addMovements : am_M := (yX1_addMovements, cX1_addMovements, 4, none, 3, 73)
theorem cb_X1_addMovements_X3_sourceOf (i : Nat) : am_cb mX1_addMovements i mX3_sourceOf 1 := ⟨wd_303, wd_56, ⟨pl_X3.1, pl_X3.2, pd_X3_sourceOf⟩, Nat.le_of_ble_eq_true rfl, Nat.le_of_ble_eq_true rfl⟩
theorem wd_553 : Cond.methodLink RX1 175 yX3_sourceOf ∈ am_T := am_T_in 553 (by decide +kernel) (by decide +kernel)
theorem q_X1_addMovements_175 : am_qV mX1_addMovements 175 mX3_sourceOf 1 := ⟨cb_X1_addMovements_X3_sourceOf 175, wd_553, wd_301, wd_302⟩
theorem cb_X1_addMovements_X3_countAt (i : Nat) : am_cb mX1_addMovements i mX3_countAt 1 := ⟨wd_208, wd_56, ⟨pl_X3.1, pl_X3.2, pd_X3_countAt⟩, Nat.le_of_ble_eq_true rfl, Nat.le_of_ble_eq_true rfl⟩
theorem q_X1_addMovements_142 : am_qV mX1_addMovements 142 mX3_countAt 1 := ⟨cb_X1_addMovements_X3_countAt 142, wd_488, wd_206, wd_207⟩
theorem cb_X1_addMovements_J9_min_7cf53 (i : Nat) : am_cb mX1_addMovements i mJ9_min_7cf53 2 := ⟨wd_519, wd_59, ⟨pl_J9.1, pl_J9.2, pd_J9_min_7cf53⟩, Nat.le_of_ble_eq_true rfl, Nat.le_of_ble_eq_true rfl⟩
theorem q_X1_addMovements_154 : am_qS mX1_addMovements 154 mJ9_min_7cf53 2 ∨ am_qN mX1_addMovements 154 mJ9_min_7cf53 2 := Or.inl ⟨cb_X1_addMovements_J9_min_7cf53 154, wd_517, wd_518⟩
theorem pd_X3_movementError : (parseMethodDescriptor yX3_movementError.desc).map (fun d => d.parameters.length) = some 2 := by decide +kernel
theorem wd_327 : Cond.code yX3_movementError cX3_movementError 9 (some .int) ∈ am_T := am_T_in 327 (by decide +kernel) (by decide +kernel)
theorem cb_X1_addMovements_X3_movementError (i : Nat) : am_cb mX1_addMovements i mX3_movementError 2 := ⟨wd_327, wd_56, ⟨pl_X3.1, pl_X3.2, pd_X3_movementError⟩, Nat.le_of_ble_eq_true rfl, Nat.le_of_ble_eq_true rfl⟩
theorem wd_554 : Cond.methodLink RX1 178 yX3_movementError ∈ am_T := am_T_in 554 (by decide +kernel) (by decide +kernel)
theorem wd_325 : Cond.instanceMethod yX3_movementError ∈ am_T := am_T_in 325 (by decide +kernel) (by decide +kernel)
theorem wd_326 : Cond.selects RX3 yX3_movementError yX3_movementError ∈ am_T := am_T_in 326 (by decide +kernel) (by decide +kernel)
theorem q_X1_addMovements_178 : am_qV mX1_addMovements 178 mX3_movementError 2 := ⟨cb_X1_addMovements_X3_movementError 178, wd_554, wd_325, wd_326⟩
theorem cb_X1_addMovements_X3_shift (i : Nat) : am_cb mX1_addMovements i mX3_shift 2 := ⟨wd_299, wd_56, ⟨pl_X3.1, pl_X3.2, pd_X3_shift⟩, Nat.le_of_ble_eq_true rfl, Nat.le_of_ble_eq_true rfl⟩
theorem wd_555 : Cond.methodLink RX1 181 yX3_shift ∈ am_T := am_T_in 555 (by decide +kernel) (by decide +kernel)
theorem q_X1_addMovements_181 : am_qV mX1_addMovements 181 mX3_shift 2 := ⟨cb_X1_addMovements_X3_shift 181, wd_555, wd_297, wd_298⟩
theorem pd_X1_stateOf : (parseMethodDescriptor yX1_stateOf.desc).map (fun d => d.parameters.length) = some 1 := by decide +kernel
theorem wd_510 : Cond.code yX1_stateOf cX1_stateOf 8 (some .int) ∈ am_T := am_T_in 510 (by decide +kernel) (by decide +kernel)
theorem cb_X1_addMovements_X1_stateOf (i : Nat) : am_cb mX1_addMovements i mX1_stateOf 1 := ⟨wd_510, wd_60, ⟨pl_X1.1, pl_X1.2, pd_X1_stateOf⟩, Nat.le_of_ble_eq_true rfl, Nat.le_of_ble_eq_true rfl⟩
theorem wd_507 : Cond.methodLink RX1 81 yX1_stateOf ∈ am_T := am_T_in 507 (by decide +kernel) (by decide +kernel)
theorem wd_509 : Cond.instanceMethod yX1_stateOf ∈ am_T := am_T_in 509 (by decide +kernel) (by decide +kernel)
theorem wd_12 : Cond.selects RX1 yX1_stateOf yX1_stateOf ∈ am_T := am_T_in 12 (by decide +kernel) (by decide +kernel)
theorem q_X1_addMovements_81 : am_qV mX1_addMovements 81 mX1_stateOf 1 := ⟨cb_X1_addMovements_X1_stateOf 81, wd_507, wd_509, wd_12⟩
theorem pd_X1_addNeighbour : (parseMethodDescriptor yX1_addNeighbour.desc).map (fun d => d.parameters.length) = some 2 := by decide +kernel
theorem wd_547 : Cond.code yX1_addNeighbour cX1_addNeighbour 3 none ∈ am_T := am_T_in 547 (by decide +kernel) (by decide +kernel)
theorem cb_X1_addMovements_X1_addNeighbour (i : Nat) : am_cb mX1_addMovements i mX1_addNeighbour 2 := ⟨wd_547, wd_60, ⟨pl_X1.1, pl_X1.2, pd_X1_addNeighbour⟩, Nat.le_of_ble_eq_true rfl, Nat.le_of_ble_eq_true rfl⟩
theorem wd_544 : Cond.methodLink RX1 166 yX1_addNeighbour ∈ am_T := am_T_in 544 (by decide +kernel) (by decide +kernel)
theorem wd_546 : Cond.instanceMethod yX1_addNeighbour ∈ am_T := am_T_in 546 (by decide +kernel) (by decide +kernel)
theorem wd_16 : Cond.selects RX1 yX1_addNeighbour yX1_addNeighbour ∈ am_T := am_T_in 16 (by decide +kernel) (by decide +kernel)
theorem q_X1_addMovements_166 : am_qV mX1_addMovements 166 mX1_addNeighbour 2 := ⟨cb_X1_addMovements_X1_addNeighbour 166, wd_544, wd_546, wd_16⟩
theorem pd_X4_reverseOf : (parseMethodDescriptor yX4_reverseOf.desc).map (fun d => d.parameters.length) = some 1 := by decide +kernel
theorem wd_354 : Cond.code yX4_reverseOf cX4_reverseOf 1 (some .int) ∈ am_T := am_T_in 354 (by decide +kernel) (by decide +kernel)
theorem cb_X1_addMovements_X4_reverseOf (i : Nat) : am_cb mX1_addMovements i mX4_reverseOf 1 := ⟨wd_354, wd_55, ⟨pl_X4.1, pl_X4.2, pd_X4_reverseOf⟩, Nat.le_of_ble_eq_true rfl, Nat.le_of_ble_eq_true rfl⟩
theorem wd_353 : Cond.static yX4_reverseOf ∈ am_T := am_T_in 353 (by decide +kernel) (by decide +kernel)
theorem q_X1_addMovements_184 : am_qS mX1_addMovements 184 mX4_reverseOf 1 ∨ am_qN mX1_addMovements 184 mX4_reverseOf 1 := Or.inr ⟨cb_X1_addMovements_X4_reverseOf 184, ⟨RX4, List.mem_of_getElem? (i := 6) rfl⟩, wd_353⟩
theorem pf_X1_listNeighbours : plainFor yX1_listNeighbours = true := by unfold plainFor; rw [show plainName yX1_listNeighbours.cls = true from pn_X1]; rfl
def mX1_listNeighbours : am_M := (yX1_listNeighbours, cX1_listNeighbours, 5, none, 4, 96)
theorem pd_J9_floorMod_7cf53 : (parseMethodDescriptor yJ9_floorMod_7cf53.desc).map (fun d => d.parameters.length) = some 2 := by decide +kernel
theorem wd_543 : Cond.code yJ9_floorMod_7cf53 cJ9_floorMod_7cf53 3 (some .int) ∈ am_T := am_T_in 543 (by decide +kernel) (by decide +kernel)
theorem cb_X1_listNeighbours_J9_floorMod_7cf53 (i : Nat) : am_cb mX1_listNeighbours i mJ9_floorMod_7cf53 2 := ⟨wd_543, wd_59, ⟨pl_J9.1, pl_J9.2, pd_J9_floorMod_7cf53⟩, Nat.le_of_ble_eq_true rfl, Nat.le_of_ble_eq_true rfl⟩
theorem wd_541 : Cond.methodLink RX1 163 yJ9_floorMod_7cf53 ∈ am_T := am_T_in 541 (by decide +kernel) (by decide +kernel)
theorem wd_542 : Cond.static yJ9_floorMod_7cf53 ∈ am_T := am_T_in 542 (by decide +kernel) (by decide +kernel)
theorem q_X1_listNeighbours_163 : am_qS mX1_listNeighbours 163 mJ9_floorMod_7cf53 2 ∨ am_qN mX1_listNeighbours 163 mJ9_floorMod_7cf53 2 := Or.inl ⟨cb_X1_listNeighbours_J9_floorMod_7cf53 163, wd_541, wd_542⟩
theorem cb_X1_listNeighbours_X1_addNeighbour (i : Nat) : am_cb mX1_listNeighbours i mX1_addNeighbour 2 := ⟨wd_547, wd_60, ⟨pl_X1.1, pl_X1.2, pd_X1_addNeighbour⟩, Nat.le_of_ble_eq_true rfl, Nat.le_of_ble_eq_true rfl⟩
theorem q_X1_listNeighbours_166 : am_qV mX1_listNeighbours 166 mX1_addNeighbour 2 := ⟨cb_X1_listNeighbours_X1_addNeighbour 166, wd_544, wd_546, wd_16⟩
theorem fp_X1_157 : am_fp RX1 157 3 7 .int false := ⟨RX3, TX3, 8, tyX3, cl_X3, Nat.le_of_ble_eq_true rfl, rfl, rfl, rfl, Or.inr ⟨rfl, RX4, List.mem_of_getElem? (i := 2) rfl⟩⟩
theorem cb_X1_listNeighbours_X3_positionAt (i : Nat) : am_cb mX1_listNeighbours i mX3_positionAt 1 := ⟨wd_284, wd_56, ⟨pl_X3.1, pl_X3.2, pd_X3_positionAt⟩, Nat.le_of_ble_eq_true rfl, Nat.le_of_ble_eq_true rfl⟩
theorem wd_548 : Cond.methodLink RX1 169 yX3_positionAt ∈ am_T := am_T_in 548 (by decide +kernel) (by decide +kernel)
theorem q_X1_listNeighbours_169 : am_qV mX1_listNeighbours 169 mX3_positionAt 1 := ⟨cb_X1_listNeighbours_X3_positionAt 169, wd_548, wd_282, wd_283⟩
theorem cb_X1_listNeighbours_X3_lengthAt (i : Nat) : am_cb mX1_listNeighbours i mX3_lengthAt 1 := ⟨wd_158, wd_56, ⟨pl_X3.1, pl_X3.2, pd_X3_lengthAt⟩, Nat.le_of_ble_eq_true rfl, Nat.le_of_ble_eq_true rfl⟩
theorem q_X1_listNeighbours_112 : am_qV mX1_listNeighbours 112 mX3_lengthAt 1 := ⟨cb_X1_listNeighbours_X3_lengthAt 112, wd_455, wd_156, wd_157⟩
theorem cb_X1_listNeighbours_X1_showRows (i : Nat) : am_cb mX1_listNeighbours i mX1_showRows 1 := ⟨wd_478, wd_60, ⟨pl_X1.1, pl_X1.2, pd_X1_showRows⟩, Nat.le_of_ble_eq_true rfl, Nat.le_of_ble_eq_true rfl⟩
theorem q_X1_listNeighbours_121 : am_qV mX1_listNeighbours 121 mX1_showRows 1 := ⟨cb_X1_listNeighbours_X1_showRows 121, wd_475, wd_477, wd_9⟩
theorem pd_X1_addMovements : (parseMethodDescriptor yX1_addMovements.desc).map (fun d => d.parameters.length) = some 1 := by decide +kernel
theorem wd_552 : Cond.code yX1_addMovements cX1_addMovements 4 none ∈ am_T := am_T_in 552 (by decide +kernel) (by decide +kernel)
theorem cb_X1_listNeighbours_X1_addMovements (i : Nat) : am_cb mX1_listNeighbours i mX1_addMovements 1 := ⟨wd_552, wd_60, ⟨pl_X1.1, pl_X1.2, pd_X1_addMovements⟩, Nat.le_of_ble_eq_true rfl, Nat.le_of_ble_eq_true rfl⟩
theorem wd_549 : Cond.methodLink RX1 172 yX1_addMovements ∈ am_T := am_T_in 549 (by decide +kernel) (by decide +kernel)
theorem wd_551 : Cond.instanceMethod yX1_addMovements ∈ am_T := am_T_in 551 (by decide +kernel) (by decide +kernel)
theorem wd_17 : Cond.selects RX1 yX1_addMovements yX1_addMovements ∈ am_T := am_T_in 17 (by decide +kernel) (by decide +kernel)
theorem q_X1_listNeighbours_172 : am_qV mX1_listNeighbours 172 mX1_addMovements 1 := ⟨cb_X1_listNeighbours_X1_addMovements 172, wd_549, wd_551, wd_17⟩
theorem pf_X1_costOfAction : plainFor yX1_costOfAction = true := by unfold plainFor; rw [show plainName yX1_costOfAction.cls = true from pn_X1]; rfl
def mX1_costOfAction : am_M := (yX1_costOfAction, cX1_costOfAction, 1, some .int, 0, 0)
theorem sc_10001 : (Int16.ofInt 10001).toInt32 = 10001 := by decide +kernel
theorem pf_X1_improveNeighbours : plainFor yX1_improveNeighbours = true := by unfold plainFor; rw [show plainName yX1_improveNeighbours.cls = true from pn_X1]; rfl
def mX1_improveNeighbours : am_M := (yX1_improveNeighbours, cX1_improveNeighbours, 4, none, 2, 44)
theorem pd_X1_costOfAction : (parseMethodDescriptor yX1_costOfAction.desc).map (fun d => d.parameters.length) = some 1 := by decide +kernel
theorem wd_563 : Cond.code yX1_costOfAction cX1_costOfAction 1 (some .int) ∈ am_T := am_T_in 563 (by decide +kernel) (by decide +kernel)
theorem cb_X1_improveNeighbours_X1_costOfAction (i : Nat) : am_cb mX1_improveNeighbours i mX1_costOfAction 1 := ⟨wd_563, wd_60, ⟨pl_X1.1, pl_X1.2, pd_X1_costOfAction⟩, Nat.le_of_ble_eq_true rfl, Nat.le_of_ble_eq_true rfl⟩
theorem wd_561 : Cond.methodLink RX1 187 yX1_costOfAction ∈ am_T := am_T_in 561 (by decide +kernel) (by decide +kernel)
theorem wd_562 : Cond.static yX1_costOfAction ∈ am_T := am_T_in 562 (by decide +kernel) (by decide +kernel)
theorem q_X1_improveNeighbours_187 : am_qS mX1_improveNeighbours 187 mX1_costOfAction 1 ∨ am_qN mX1_improveNeighbours 187 mX1_costOfAction 1 := Or.inl ⟨cb_X1_improveNeighbours_X1_costOfAction 187, wd_561, wd_562⟩
theorem cb_X1_improveNeighbours_X1_improve (i : Nat) : am_cb mX1_improveNeighbours i mX1_improve 3 := ⟨wd_498, wd_60, ⟨pl_X1.1, pl_X1.2, pd_X1_improve⟩, Nat.le_of_ble_eq_true rfl, Nat.le_of_ble_eq_true rfl⟩
theorem q_X1_improveNeighbours_131 : am_qV mX1_improveNeighbours 131 mX1_improve 3 := ⟨cb_X1_improveNeighbours_X1_improve 131, wd_495, wd_497, wd_11⟩
theorem pf_X1_bestCost : plainFor yX1_bestCost = true := by unfold plainFor; rw [show plainName yX1_bestCost.cls = true from pn_X1]; rfl
def mX1_bestCost : am_M := (yX1_bestCost, cX1_bestCost, 6, some .int, 5, 120)
theorem cb_X1_bestCost_X1_stateOf (i : Nat) : am_cb mX1_bestCost i mX1_stateOf 1 := ⟨wd_510, wd_60, ⟨pl_X1.1, pl_X1.2, pd_X1_stateOf⟩, Nat.le_of_ble_eq_true rfl, Nat.le_of_ble_eq_true rfl⟩
theorem q_X1_bestCost_81 : am_qV mX1_bestCost 81 mX1_stateOf 1 := ⟨cb_X1_bestCost_X1_stateOf 81, wd_507, wd_509, wd_12⟩
theorem sc_8064 : (Int16.ofInt 8064).toInt32 = 8064 := by decide +kernel
theorem cb_X1_bestCost_X1_costOf (i : Nat) : am_cb mX1_bestCost i mX1_costOf 1 := ⟨wd_531, wd_60, ⟨pl_X1.1, pl_X1.2, pd_X1_costOf⟩, Nat.le_of_ble_eq_true rfl, Nat.le_of_ble_eq_true rfl⟩
theorem q_X1_bestCost_93 : am_qV mX1_bestCost 93 mX1_costOf 1 := ⟨cb_X1_bestCost_X1_costOf 93, wd_528, wd_530, wd_14⟩
theorem pd_X1_nearerQueue : (parseMethodDescriptor yX1_nearerQueue.desc).map (fun d => d.parameters.length) = some 0 := by decide +kernel
theorem wd_523 : Cond.code yX1_nearerQueue cX1_nearerQueue 1 (some (.object "TurntableHouse$StateQueue")) ∈ am_T := am_T_in 523 (by decide +kernel) (by decide +kernel)
theorem cb_X1_bestCost_X1_nearerQueue (i : Nat) : am_cb mX1_bestCost i mX1_nearerQueue 0 := ⟨wd_523, wd_60, ⟨pl_X1.1, pl_X1.2, pd_X1_nearerQueue⟩, Nat.le_of_ble_eq_true rfl, Nat.le_of_ble_eq_true rfl⟩
theorem wd_520 : Cond.methodLink RX1 85 yX1_nearerQueue ∈ am_T := am_T_in 520 (by decide +kernel) (by decide +kernel)
theorem wd_522 : Cond.instanceMethod yX1_nearerQueue ∈ am_T := am_T_in 522 (by decide +kernel) (by decide +kernel)
theorem wd_13 : Cond.selects RX1 yX1_nearerQueue yX1_nearerQueue ∈ am_T := am_T_in 13 (by decide +kernel) (by decide +kernel)
theorem q_X1_bestCost_85 : am_qV mX1_bestCost 85 mX1_nearerQueue 0 := ⟨cb_X1_bestCost_X1_nearerQueue 85, wd_520, wd_522, wd_13⟩
theorem cb_X1_bestCost_X2_first (i : Nat) : am_cb mX1_bestCost i mX2_first 0 := ⟨wd_527, wd_61, ⟨pl_X2.1, pl_X2.2, pd_X2_first⟩, Nat.le_of_ble_eq_true rfl, Nat.le_of_ble_eq_true rfl⟩
theorem q_X1_bestCost_89 : am_qV mX1_bestCost 89 mX2_first 0 := ⟨cb_X1_bestCost_X2_first 89, wd_524, wd_525, wd_526⟩
theorem pd_X2_removeFirst : (parseMethodDescriptor yX2_removeFirst.desc).map (fun d => d.parameters.length) = some 0 := by decide +kernel
theorem wd_535 : Cond.code yX2_removeFirst cX2_removeFirst 2 (some .int) ∈ am_T := am_T_in 535 (by decide +kernel) (by decide +kernel)
theorem cb_X1_bestCost_X2_removeFirst (i : Nat) : am_cb mX1_bestCost i mX2_removeFirst 0 := ⟨wd_535, wd_61, ⟨pl_X2.1, pl_X2.2, pd_X2_removeFirst⟩, Nat.le_of_ble_eq_true rfl, Nat.le_of_ble_eq_true rfl⟩
theorem wd_532 : Cond.methodLink RX1 96 yX2_removeFirst ∈ am_T := am_T_in 532 (by decide +kernel) (by decide +kernel)
theorem wd_533 : Cond.instanceMethod yX2_removeFirst ∈ am_T := am_T_in 533 (by decide +kernel) (by decide +kernel)
theorem wd_534 : Cond.selects RX2 yX2_removeFirst yX2_removeFirst ∈ am_T := am_T_in 534 (by decide +kernel) (by decide +kernel)
theorem q_X1_bestCost_96 : am_qV mX1_bestCost 96 mX2_removeFirst 0 := ⟨cb_X1_bestCost_X2_removeFirst 96, wd_532, wd_533, wd_534⟩
theorem pd_X1_listNeighbours : (parseMethodDescriptor yX1_listNeighbours.desc).map (fun d => d.parameters.length) = some 1 := by decide +kernel
theorem wd_540 : Cond.code yX1_listNeighbours cX1_listNeighbours 5 none ∈ am_T := am_T_in 540 (by decide +kernel) (by decide +kernel)
theorem cb_X1_bestCost_X1_listNeighbours (i : Nat) : am_cb mX1_bestCost i mX1_listNeighbours 1 := ⟨wd_540, wd_60, ⟨pl_X1.1, pl_X1.2, pd_X1_listNeighbours⟩, Nat.le_of_ble_eq_true rfl, Nat.le_of_ble_eq_true rfl⟩
theorem wd_537 : Cond.methodLink RX1 99 yX1_listNeighbours ∈ am_T := am_T_in 537 (by decide +kernel) (by decide +kernel)
theorem wd_539 : Cond.instanceMethod yX1_listNeighbours ∈ am_T := am_T_in 539 (by decide +kernel) (by decide +kernel)
theorem wd_15 : Cond.selects RX1 yX1_listNeighbours yX1_listNeighbours ∈ am_T := am_T_in 15 (by decide +kernel) (by decide +kernel)
theorem q_X1_bestCost_99 : am_qV mX1_bestCost 99 mX1_listNeighbours 1 := ⟨cb_X1_bestCost_X1_listNeighbours 99, wd_537, wd_539, wd_15⟩
theorem pd_X1_improveNeighbours : (parseMethodDescriptor yX1_improveNeighbours.desc).map (fun d => d.parameters.length) = some 1 := by decide +kernel
theorem wd_560 : Cond.code yX1_improveNeighbours cX1_improveNeighbours 4 none ∈ am_T := am_T_in 560 (by decide +kernel) (by decide +kernel)
theorem cb_X1_bestCost_X1_improveNeighbours (i : Nat) : am_cb mX1_bestCost i mX1_improveNeighbours 1 := ⟨wd_560, wd_60, ⟨pl_X1.1, pl_X1.2, pd_X1_improveNeighbours⟩, Nat.le_of_ble_eq_true rfl, Nat.le_of_ble_eq_true rfl⟩
theorem wd_557 : Cond.methodLink RX1 103 yX1_improveNeighbours ∈ am_T := am_T_in 557 (by decide +kernel) (by decide +kernel)
theorem wd_559 : Cond.instanceMethod yX1_improveNeighbours ∈ am_T := am_T_in 559 (by decide +kernel) (by decide +kernel)
theorem wd_18 : Cond.selects RX1 yX1_improveNeighbours yX1_improveNeighbours ∈ am_T := am_T_in 18 (by decide +kernel) (by decide +kernel)
theorem q_X1_bestCost_103 : am_qV mX1_bestCost 103 mX1_improveNeighbours 1 := ⟨cb_X1_bestCost_X1_improveNeighbours 103, wd_557, wd_559, wd_18⟩
theorem pf_X1_firstOnBestPlan : plainFor yX1_firstOnBestPlan = true := by unfold plainFor; rw [show plainName yX1_firstOnBestPlan.cls = true from pn_X1]; rfl
def mX1_firstOnBestPlan : am_M := (yX1_firstOnBestPlan, cX1_firstOnBestPlan, 4, some .int, 1, 21)
theorem cb_X1_firstOnBestPlan_X1_costOf (i : Nat) : am_cb mX1_firstOnBestPlan i mX1_costOf 1 := ⟨wd_531, wd_60, ⟨pl_X1.1, pl_X1.2, pd_X1_costOf⟩, Nat.le_of_ble_eq_true rfl, Nat.le_of_ble_eq_true rfl⟩
theorem q_X1_firstOnBestPlan_93 : am_qV mX1_firstOnBestPlan 93 mX1_costOf 1 := ⟨cb_X1_firstOnBestPlan_X1_costOf 93, wd_528, wd_530, wd_14⟩
theorem cb_X1_firstOnBestPlan_X1_costOfAction (i : Nat) : am_cb mX1_firstOnBestPlan i mX1_costOfAction 1 := ⟨wd_563, wd_60, ⟨pl_X1.1, pl_X1.2, pd_X1_costOfAction⟩, Nat.le_of_ble_eq_true rfl, Nat.le_of_ble_eq_true rfl⟩
theorem q_X1_firstOnBestPlan_187 : am_qS mX1_firstOnBestPlan 187 mX1_costOfAction 1 ∨ am_qN mX1_firstOnBestPlan 187 mX1_costOfAction 1 := Or.inl ⟨cb_X1_firstOnBestPlan_X1_costOfAction 187, wd_561, wd_562⟩
theorem pf_X1_actionAt : plainFor yX1_actionAt = true := by unfold plainFor; rw [show plainName yX1_actionAt.cls = true from pn_X1]; rfl
def mX1_actionAt : am_M := (yX1_actionAt, cX1_actionAt, 7, some .int, 5, 120)
theorem cb_X1_actionAt_X1_stateOf (i : Nat) : am_cb mX1_actionAt i mX1_stateOf 1 := ⟨wd_510, wd_60, ⟨pl_X1.1, pl_X1.2, pd_X1_stateOf⟩, Nat.le_of_ble_eq_true rfl, Nat.le_of_ble_eq_true rfl⟩
theorem q_X1_actionAt_81 : am_qV mX1_actionAt 81 mX1_stateOf 1 := ⟨cb_X1_actionAt_X1_stateOf 81, wd_507, wd_509, wd_12⟩
theorem cb_X1_actionAt_X1_listNeighbours (i : Nat) : am_cb mX1_actionAt i mX1_listNeighbours 1 := ⟨wd_540, wd_60, ⟨pl_X1.1, pl_X1.2, pd_X1_listNeighbours⟩, Nat.le_of_ble_eq_true rfl, Nat.le_of_ble_eq_true rfl⟩
theorem q_X1_actionAt_99 : am_qV mX1_actionAt 99 mX1_listNeighbours 1 := ⟨cb_X1_actionAt_X1_listNeighbours 99, wd_537, wd_539, wd_15⟩
theorem cb_X1_actionAt_X1_costOf (i : Nat) : am_cb mX1_actionAt i mX1_costOf 1 := ⟨wd_531, wd_60, ⟨pl_X1.1, pl_X1.2, pd_X1_costOf⟩, Nat.le_of_ble_eq_true rfl, Nat.le_of_ble_eq_true rfl⟩
theorem q_X1_actionAt_93 : am_qV mX1_actionAt 93 mX1_costOf 1 := ⟨cb_X1_actionAt_X1_costOf 93, wd_528, wd_530, wd_14⟩
theorem pd_X1_firstOnBestPlan : (parseMethodDescriptor yX1_firstOnBestPlan.desc).map (fun d => d.parameters.length) = some 1 := by decide +kernel
theorem wd_576 : Cond.code yX1_firstOnBestPlan cX1_firstOnBestPlan 4 (some .int) ∈ am_T := am_T_in 576 (by decide +kernel) (by decide +kernel)
theorem cb_X1_actionAt_X1_firstOnBestPlan (i : Nat) : am_cb mX1_actionAt i mX1_firstOnBestPlan 1 := ⟨wd_576, wd_60, ⟨pl_X1.1, pl_X1.2, pd_X1_firstOnBestPlan⟩, Nat.le_of_ble_eq_true rfl, Nat.le_of_ble_eq_true rfl⟩
theorem wd_573 : Cond.methodLink RX1 106 yX1_firstOnBestPlan ∈ am_T := am_T_in 573 (by decide +kernel) (by decide +kernel)
theorem wd_575 : Cond.instanceMethod yX1_firstOnBestPlan ∈ am_T := am_T_in 575 (by decide +kernel) (by decide +kernel)
theorem wd_19 : Cond.selects RX1 yX1_firstOnBestPlan yX1_firstOnBestPlan ∈ am_T := am_T_in 19 (by decide +kernel) (by decide +kernel)
theorem q_X1_actionAt_106 : am_qV mX1_actionAt 106 mX1_firstOnBestPlan 1 := ⟨cb_X1_actionAt_X1_firstOnBestPlan 106, wd_573, wd_575, wd_19⟩
theorem pf_X5_in : plainFor yX5_in = true := by unfold plainFor; rw [show plainName yX5_in.cls = true from pn_X5]; rfl
def mX5_in : am_M := (yX5_in, cX5_in, 3, some .boolean, 0, 0)
theorem pf_X5_change : plainFor yX5_change = true := by unfold plainFor; rw [show plainName yX5_change.cls = true from pn_X5]; rfl
def mX5_change : am_M := (yX5_change, cX5_change, 1, none, 0, 0)
theorem wd_599 : Cond.fieldLink RX5 81 RX5 "logged" "I" ∈ am_T := am_T_in 599 (by decide +kernel) (by decide +kernel)
theorem fp_X5_81 : am_fp RX5 81 5 4 .int false := ⟨RX5, TX5, 32, tyX5, cl_X5, Nat.le_of_ble_eq_true rfl, rfl, rfl, rfl, Or.inl ⟨wd_599, fun _ => rfl⟩⟩
theorem pf_X5_isPosition : plainFor yX5_isPosition = true := by unfold plainFor; rw [show plainName yX5_isPosition.cls = true from pn_X5]; rfl
def mX5_isPosition : am_M := (yX5_isPosition, cX5_isPosition, 1, some .boolean, 1, 22)
theorem bc_11 : (Int8.ofInt 11).toInt32 = 11 := by decide +kernel
theorem pl_X5 : RX5 ≠ "java/lang/invoke/MethodHandle" ∧ RX5 ≠ "java/lang/invoke/VarHandle" := by decide +kernel
theorem pd_X5_in : (parseMethodDescriptor yX5_in.desc).map (fun d => d.parameters.length) = some 3 := by decide +kernel
theorem wd_702 : Cond.code yX5_in cX5_in 3 (some .boolean) ∈ am_T := am_T_in 702 (by decide +kernel) (by decide +kernel)
theorem wd_58 : Cond.initialized RX5 ∈ am_T := am_T_in 58 (by decide +kernel) (by decide +kernel)
theorem cb_X5_isPosition_X5_in (i : Nat) : am_cb mX5_isPosition i mX5_in 3 := ⟨wd_702, wd_58, ⟨pl_X5.1, pl_X5.2, pd_X5_in⟩, Nat.le_of_ble_eq_true rfl, Nat.le_of_ble_eq_true rfl⟩
theorem wd_700 : Cond.methodLink RX5 84 yX5_in ∈ am_T := am_T_in 700 (by decide +kernel) (by decide +kernel)
theorem wd_701 : Cond.static yX5_in ∈ am_T := am_T_in 701 (by decide +kernel) (by decide +kernel)
theorem q_X5_isPosition_84 : am_qS mX5_isPosition 84 mX5_in 3 ∨ am_qN mX5_isPosition 84 mX5_in 3 := Or.inl ⟨cb_X5_isPosition_X5_in 84, wd_700, wd_701⟩
theorem pf_X5_isLocomotive : plainFor yX5_isLocomotive = true := by unfold plainFor; rw [show plainName yX5_isLocomotive.cls = true from pn_X5]; rfl
def mX5_isLocomotive : am_M := (yX5_isLocomotive, cX5_isLocomotive, 2, some .boolean, 1, 22)
theorem cb_X5_isLocomotive_X5_in (i : Nat) : am_cb mX5_isLocomotive i mX5_in 3 := ⟨wd_702, wd_58, ⟨pl_X5.1, pl_X5.2, pd_X5_in⟩, Nat.le_of_ble_eq_true rfl, Nat.le_of_ble_eq_true rfl⟩
theorem q_X5_isLocomotive_84 : am_qS mX5_isLocomotive 84 mX5_in 3 ∨ am_qN mX5_isLocomotive 84 mX5_in 3 := Or.inl ⟨cb_X5_isLocomotive_X5_in 84, wd_700, wd_701⟩
theorem pf_X5_isTrack : plainFor yX5_isTrack = true := by unfold plainFor; rw [show plainName yX5_isTrack.cls = true from pn_X5]; rfl
def mX5_isTrack : am_M := (yX5_isTrack, cX5_isTrack, 2, some .boolean, 0, 0)
theorem pf_X5_cell : plainFor yX5_cell = true := by unfold plainFor; rw [show plainName yX5_cell.cls = true from pn_X5]; rfl
def mX5_cell : am_M := (yX5_cell, cX5_cell, 3, some .int, 0, 0)
theorem bc_44 : (Int8.ofInt 44).toInt32 = 44 := by decide +kernel
theorem pf_X5_used : plainFor yX5_used = true := by unfold plainFor; rw [show plainName yX5_used.cls = true from pn_X5]; rfl
def mX5_used : am_M := (yX5_used, cX5_used, 4, some .int, 1, 22)
theorem bc_31 : (Int8.ofInt 31).toInt32 = 31 := by decide +kernel
theorem bc_15 : (Int8.ofInt 15).toInt32 = 15 := by decide +kernel
theorem pd_X5_cell : (parseMethodDescriptor yX5_cell.desc).map (fun d => d.parameters.length) = some 2 := by decide +kernel
theorem wd_710 : Cond.code yX5_cell cX5_cell 3 (some .int) ∈ am_T := am_T_in 710 (by decide +kernel) (by decide +kernel)
theorem cb_X5_used_X5_cell (i : Nat) : am_cb mX5_used i mX5_cell 2 := ⟨wd_710, wd_58, ⟨pl_X5.1, pl_X5.2, pd_X5_cell⟩, Nat.le_of_ble_eq_true rfl, Nat.le_of_ble_eq_true rfl⟩
theorem wd_707 : Cond.methodLink RX5 88 yX5_cell ∈ am_T := am_T_in 707 (by decide +kernel) (by decide +kernel)
theorem wd_709 : Cond.instanceMethod yX5_cell ∈ am_T := am_T_in 709 (by decide +kernel) (by decide +kernel)
theorem wd_21 : Cond.selects RX5 yX5_cell yX5_cell ∈ am_T := am_T_in 21 (by decide +kernel) (by decide +kernel)
theorem q_X5_used_88 : am_qV mX5_used 88 mX5_cell 2 := ⟨cb_X5_used_X5_cell 88, wd_707, wd_709, wd_21⟩
theorem pf_X5_setTrack : plainFor yX5_setTrack = true := by unfold plainFor; rw [show plainName yX5_setTrack.cls = true from pn_X5]; rfl
def mX5_setTrack : am_M := (yX5_setTrack, cX5_setTrack, 4, some .int, 2, 45)
theorem pd_X5_isPosition : (parseMethodDescriptor yX5_isPosition.desc).map (fun d => d.parameters.length) = some 1 := by decide +kernel
theorem wd_699 : Cond.code yX5_isPosition cX5_isPosition 1 (some .boolean) ∈ am_T := am_T_in 699 (by decide +kernel) (by decide +kernel)
theorem cb_X5_setTrack_X5_isPosition (i : Nat) : am_cb mX5_setTrack i mX5_isPosition 1 := ⟨wd_699, wd_58, ⟨pl_X5.1, pl_X5.2, pd_X5_isPosition⟩, Nat.le_of_ble_eq_true rfl, Nat.le_of_ble_eq_true rfl⟩
theorem wd_697 : Cond.methodLink RX5 92 yX5_isPosition ∈ am_T := am_T_in 697 (by decide +kernel) (by decide +kernel)
theorem wd_698 : Cond.static yX5_isPosition ∈ am_T := am_T_in 698 (by decide +kernel) (by decide +kernel)
theorem q_X5_setTrack_92 : am_qS mX5_setTrack 92 mX5_isPosition 1 ∨ am_qN mX5_setTrack 92 mX5_isPosition 1 := Or.inl ⟨cb_X5_setTrack_X5_isPosition 92, wd_697, wd_698⟩
theorem bc_60 : (Int8.ofInt 60).toInt32 = 60 := by decide +kernel
theorem cb_X5_setTrack_X5_in (i : Nat) : am_cb mX5_setTrack i mX5_in 3 := ⟨wd_702, wd_58, ⟨pl_X5.1, pl_X5.2, pd_X5_in⟩, Nat.le_of_ble_eq_true rfl, Nat.le_of_ble_eq_true rfl⟩
theorem q_X5_setTrack_84 : am_qS mX5_setTrack 84 mX5_in 3 ∨ am_qN mX5_setTrack 84 mX5_in 3 := Or.inl ⟨cb_X5_setTrack_X5_in 84, wd_700, wd_701⟩
theorem bc_m4 : (Int8.ofInt (-4)).toInt32 = (-4) := by decide +kernel
theorem pd_X5_used : (parseMethodDescriptor yX5_used.desc).map (fun d => d.parameters.length) = some 1 := by decide +kernel
theorem wd_706 : Cond.code yX5_used cX5_used 4 (some .int) ∈ am_T := am_T_in 706 (by decide +kernel) (by decide +kernel)
theorem cb_X5_setTrack_X5_used (i : Nat) : am_cb mX5_setTrack i mX5_used 1 := ⟨wd_706, wd_58, ⟨pl_X5.1, pl_X5.2, pd_X5_used⟩, Nat.le_of_ble_eq_true rfl, Nat.le_of_ble_eq_true rfl⟩
theorem wd_703 : Cond.methodLink RX5 96 yX5_used ∈ am_T := am_T_in 703 (by decide +kernel) (by decide +kernel)
theorem wd_705 : Cond.instanceMethod yX5_used ∈ am_T := am_T_in 705 (by decide +kernel) (by decide +kernel)
theorem wd_20 : Cond.selects RX5 yX5_used yX5_used ∈ am_T := am_T_in 20 (by decide +kernel) (by decide +kernel)
theorem q_X5_setTrack_96 : am_qV mX5_setTrack 96 mX5_used 1 := ⟨cb_X5_setTrack_X5_used 96, wd_703, wd_705, wd_20⟩
theorem pd_X5_change : (parseMethodDescriptor yX5_change.desc).map (fun d => d.parameters.length) = some 0 := by decide +kernel
theorem wd_714 : Cond.code yX5_change cX5_change 1 none ∈ am_T := am_T_in 714 (by decide +kernel) (by decide +kernel)
theorem cb_X5_setTrack_X5_change (i : Nat) : am_cb mX5_setTrack i mX5_change 0 := ⟨wd_714, wd_58, ⟨pl_X5.1, pl_X5.2, pd_X5_change⟩, Nat.le_of_ble_eq_true rfl, Nat.le_of_ble_eq_true rfl⟩
theorem wd_711 : Cond.methodLink RX5 100 yX5_change ∈ am_T := am_T_in 711 (by decide +kernel) (by decide +kernel)
theorem wd_713 : Cond.instanceMethod yX5_change ∈ am_T := am_T_in 713 (by decide +kernel) (by decide +kernel)
theorem wd_22 : Cond.selects RX5 yX5_change yX5_change ∈ am_T := am_T_in 22 (by decide +kernel) (by decide +kernel)
theorem q_X5_setTrack_100 : am_qV mX5_setTrack 100 mX5_change 0 := ⟨cb_X5_setTrack_X5_change 100, wd_711, wd_713, wd_22⟩
theorem bc_m5 : (Int8.ofInt (-5)).toInt32 = (-5) := by decide +kernel
theorem pf_X5_setTableLength : plainFor yX5_setTableLength = true := by unfold plainFor; rw [show plainName yX5_setTableLength.cls = true from pn_X5]; rfl
def mX5_setTableLength : am_M := (yX5_setTableLength, cX5_setTableLength, 3, some .int, 2, 45)
theorem cb_X5_setTableLength_X5_in (i : Nat) : am_cb mX5_setTableLength i mX5_in 3 := ⟨wd_702, wd_58, ⟨pl_X5.1, pl_X5.2, pd_X5_in⟩, Nat.le_of_ble_eq_true rfl, Nat.le_of_ble_eq_true rfl⟩
theorem q_X5_setTableLength_84 : am_qS mX5_setTableLength 84 mX5_in 3 ∨ am_qN mX5_setTableLength 84 mX5_in 3 := Or.inl ⟨cb_X5_setTableLength_X5_in 84, wd_700, wd_701⟩
theorem cb_X5_setTableLength_X5_used (i : Nat) : am_cb mX5_setTableLength i mX5_used 1 := ⟨wd_706, wd_58, ⟨pl_X5.1, pl_X5.2, pd_X5_used⟩, Nat.le_of_ble_eq_true rfl, Nat.le_of_ble_eq_true rfl⟩
theorem q_X5_setTableLength_96 : am_qV mX5_setTableLength 96 mX5_used 1 := ⟨cb_X5_setTableLength_X5_used 96, wd_703, wd_705, wd_20⟩
theorem cb_X5_setTableLength_X5_change (i : Nat) : am_cb mX5_setTableLength i mX5_change 0 := ⟨wd_714, wd_58, ⟨pl_X5.1, pl_X5.2, pd_X5_change⟩, Nat.le_of_ble_eq_true rfl, Nat.le_of_ble_eq_true rfl⟩
theorem q_X5_setTableLength_100 : am_qV mX5_setTableLength 100 mX5_change 0 := ⟨cb_X5_setTableLength_X5_change 100, wd_711, wd_713, wd_22⟩
theorem pf_X5_insert : plainFor yX5_insert = true := by unfold plainFor; rw [show plainName yX5_insert.cls = true from pn_X5]; rfl
def mX5_insert : am_M := (yX5_insert, cX5_insert, 5, none, 1, 22)
theorem cb_X5_insert_X5_cell (i : Nat) : am_cb mX5_insert i mX5_cell 2 := ⟨wd_710, wd_58, ⟨pl_X5.1, pl_X5.2, pd_X5_cell⟩, Nat.le_of_ble_eq_true rfl, Nat.le_of_ble_eq_true rfl⟩
theorem q_X5_insert_88 : am_qV mX5_insert 88 mX5_cell 2 := ⟨cb_X5_insert_X5_cell 88, wd_707, wd_709, wd_21⟩
theorem pf_X5_take : plainFor yX5_take = true := by unfold plainFor; rw [show plainName yX5_take.cls = true from pn_X5]; rfl
def mX5_take : am_M := (yX5_take, cX5_take, 5, some .int, 1, 22)
theorem cb_X5_take_X5_cell (i : Nat) : am_cb mX5_take i mX5_cell 2 := ⟨wd_710, wd_58, ⟨pl_X5.1, pl_X5.2, pd_X5_cell⟩, Nat.le_of_ble_eq_true rfl, Nat.le_of_ble_eq_true rfl⟩
theorem q_X5_take_88 : am_qV mX5_take 88 mX5_cell 2 := ⟨cb_X5_take_X5_cell 88, wd_707, wd_709, wd_21⟩
theorem pf_X5_addLocomotive : plainFor yX5_addLocomotive = true := by unfold plainFor; rw [show plainName yX5_addLocomotive.cls = true from pn_X5]; rfl
def mX5_addLocomotive : am_M := (yX5_addLocomotive, cX5_addLocomotive, 4, some .int, 2, 46)
theorem cb_X5_addLocomotive_X5_isPosition (i : Nat) : am_cb mX5_addLocomotive i mX5_isPosition 1 := ⟨wd_699, wd_58, ⟨pl_X5.1, pl_X5.2, pd_X5_isPosition⟩, Nat.le_of_ble_eq_true rfl, Nat.le_of_ble_eq_true rfl⟩
theorem q_X5_addLocomotive_92 : am_qS mX5_addLocomotive 92 mX5_isPosition 1 ∨ am_qN mX5_addLocomotive 92 mX5_isPosition 1 := Or.inl ⟨cb_X5_addLocomotive_X5_isPosition 92, wd_697, wd_698⟩
theorem pd_X5_isTrack : (parseMethodDescriptor yX5_isTrack.desc).map (fun d => d.parameters.length) = some 1 := by decide +kernel
theorem wd_726 : Cond.code yX5_isTrack cX5_isTrack 2 (some .boolean) ∈ am_T := am_T_in 726 (by decide +kernel) (by decide +kernel)
theorem cb_X5_addLocomotive_X5_isTrack (i : Nat) : am_cb mX5_addLocomotive i mX5_isTrack 1 := ⟨wd_726, wd_58, ⟨pl_X5.1, pl_X5.2, pd_X5_isTrack⟩, Nat.le_of_ble_eq_true rfl, Nat.le_of_ble_eq_true rfl⟩
theorem wd_723 : Cond.methodLink RX5 103 yX5_isTrack ∈ am_T := am_T_in 723 (by decide +kernel) (by decide +kernel)
theorem wd_725 : Cond.instanceMethod yX5_isTrack ∈ am_T := am_T_in 725 (by decide +kernel) (by decide +kernel)
theorem wd_23 : Cond.selects RX5 yX5_isTrack yX5_isTrack ∈ am_T := am_T_in 23 (by decide +kernel) (by decide +kernel)
theorem q_X5_addLocomotive_103 : am_qV mX5_addLocomotive 103 mX5_isTrack 1 := ⟨cb_X5_addLocomotive_X5_isTrack 103, wd_723, wd_725, wd_23⟩
theorem cb_X5_addLocomotive_X5_in (i : Nat) : am_cb mX5_addLocomotive i mX5_in 3 := ⟨wd_702, wd_58, ⟨pl_X5.1, pl_X5.2, pd_X5_in⟩, Nat.le_of_ble_eq_true rfl, Nat.le_of_ble_eq_true rfl⟩
theorem q_X5_addLocomotive_84 : am_qS mX5_addLocomotive 84 mX5_in 3 ∨ am_qN mX5_addLocomotive 84 mX5_in 3 := Or.inl ⟨cb_X5_addLocomotive_X5_in 84, wd_700, wd_701⟩
theorem cb_X5_addLocomotive_X5_used (i : Nat) : am_cb mX5_addLocomotive i mX5_used 1 := ⟨wd_706, wd_58, ⟨pl_X5.1, pl_X5.2, pd_X5_used⟩, Nat.le_of_ble_eq_true rfl, Nat.le_of_ble_eq_true rfl⟩
theorem q_X5_addLocomotive_96 : am_qV mX5_addLocomotive 96 mX5_used 1 := ⟨cb_X5_addLocomotive_X5_used 96, wd_703, wd_705, wd_20⟩
theorem bc_23 : (Int8.ofInt 23).toInt32 = 23 := by decide +kernel
theorem pd_X5_insert : (parseMethodDescriptor yX5_insert.desc).map (fun d => d.parameters.length) = some 3 := by decide +kernel
theorem wd_730 : Cond.code yX5_insert cX5_insert 5 none ∈ am_T := am_T_in 730 (by decide +kernel) (by decide +kernel)
theorem cb_X5_addLocomotive_X5_insert (i : Nat) : am_cb mX5_addLocomotive i mX5_insert 3 := ⟨wd_730, wd_58, ⟨pl_X5.1, pl_X5.2, pd_X5_insert⟩, Nat.le_of_ble_eq_true rfl, Nat.le_of_ble_eq_true rfl⟩
theorem wd_727 : Cond.methodLink RX5 106 yX5_insert ∈ am_T := am_T_in 727 (by decide +kernel) (by decide +kernel)
theorem wd_729 : Cond.instanceMethod yX5_insert ∈ am_T := am_T_in 729 (by decide +kernel) (by decide +kernel)
theorem wd_24 : Cond.selects RX5 yX5_insert yX5_insert ∈ am_T := am_T_in 24 (by decide +kernel) (by decide +kernel)
theorem q_X5_addLocomotive_106 : am_qV mX5_addLocomotive 106 mX5_insert 3 := ⟨cb_X5_addLocomotive_X5_insert 106, wd_727, wd_729, wd_24⟩
theorem cb_X5_addLocomotive_X5_change (i : Nat) : am_cb mX5_addLocomotive i mX5_change 0 := ⟨wd_714, wd_58, ⟨pl_X5.1, pl_X5.2, pd_X5_change⟩, Nat.le_of_ble_eq_true rfl, Nat.le_of_ble_eq_true rfl⟩
theorem q_X5_addLocomotive_100 : am_qV mX5_addLocomotive 100 mX5_change 0 := ⟨cb_X5_addLocomotive_X5_change 100, wd_711, wd_713, wd_22⟩
theorem pf_X5_placeOf : plainFor yX5_placeOf = true := by unfold plainFor; rw [show plainName yX5_placeOf.cls = true from pn_X5]; rfl
def mX5_placeOf : am_M := (yX5_placeOf, cX5_placeOf, 4, some .int, 1, 22)
theorem cb_X5_placeOf_X5_cell (i : Nat) : am_cb mX5_placeOf i mX5_cell 2 := ⟨wd_710, wd_58, ⟨pl_X5.1, pl_X5.2, pd_X5_cell⟩, Nat.le_of_ble_eq_true rfl, Nat.le_of_ble_eq_true rfl⟩
theorem q_X5_placeOf_88 : am_qV mX5_placeOf 88 mX5_cell 2 := ⟨cb_X5_placeOf_X5_cell 88, wd_707, wd_709, wd_21⟩
theorem pf_X5_removeLocomotive : plainFor yX5_removeLocomotive = true := by unfold plainFor; rw [show plainName yX5_removeLocomotive.cls = true from pn_X5]; rfl
def mX5_removeLocomotive : am_M := (yX5_removeLocomotive, cX5_removeLocomotive, 5, some .int, 2, 46)
theorem pd_X5_placeOf : (parseMethodDescriptor yX5_placeOf.desc).map (fun d => d.parameters.length) = some 1 := by decide +kernel
theorem wd_738 : Cond.code yX5_placeOf cX5_placeOf 4 (some .int) ∈ am_T := am_T_in 738 (by decide +kernel) (by decide +kernel)
theorem cb_X5_removeLocomotive_X5_placeOf (i : Nat) : am_cb mX5_removeLocomotive i mX5_placeOf 1 := ⟨wd_738, wd_58, ⟨pl_X5.1, pl_X5.2, pd_X5_placeOf⟩, Nat.le_of_ble_eq_true rfl, Nat.le_of_ble_eq_true rfl⟩
theorem wd_735 : Cond.methodLink RX5 110 yX5_placeOf ∈ am_T := am_T_in 735 (by decide +kernel) (by decide +kernel)
theorem wd_737 : Cond.instanceMethod yX5_placeOf ∈ am_T := am_T_in 737 (by decide +kernel) (by decide +kernel)
theorem wd_25 : Cond.selects RX5 yX5_placeOf yX5_placeOf ∈ am_T := am_T_in 25 (by decide +kernel) (by decide +kernel)
theorem q_X5_removeLocomotive_110 : am_qV mX5_removeLocomotive 110 mX5_placeOf 1 := ⟨cb_X5_removeLocomotive_X5_placeOf 110, wd_735, wd_737, wd_25⟩
theorem cb_X5_removeLocomotive_X5_cell (i : Nat) : am_cb mX5_removeLocomotive i mX5_cell 2 := ⟨wd_710, wd_58, ⟨pl_X5.1, pl_X5.2, pd_X5_cell⟩, Nat.le_of_ble_eq_true rfl, Nat.le_of_ble_eq_true rfl⟩
theorem q_X5_removeLocomotive_88 : am_qV mX5_removeLocomotive 88 mX5_cell 2 := ⟨cb_X5_removeLocomotive_X5_cell 88, wd_707, wd_709, wd_21⟩
theorem pd_X5_take : (parseMethodDescriptor yX5_take.desc).map (fun d => d.parameters.length) = some 2 := by decide +kernel
theorem wd_742 : Cond.code yX5_take cX5_take 5 (some .int) ∈ am_T := am_T_in 742 (by decide +kernel) (by decide +kernel)
theorem cb_X5_removeLocomotive_X5_take (i : Nat) : am_cb mX5_removeLocomotive i mX5_take 2 := ⟨wd_742, wd_58, ⟨pl_X5.1, pl_X5.2, pd_X5_take⟩, Nat.le_of_ble_eq_true rfl, Nat.le_of_ble_eq_true rfl⟩
theorem wd_739 : Cond.methodLink RX5 113 yX5_take ∈ am_T := am_T_in 739 (by decide +kernel) (by decide +kernel)
theorem wd_741 : Cond.instanceMethod yX5_take ∈ am_T := am_T_in 741 (by decide +kernel) (by decide +kernel)
theorem wd_26 : Cond.selects RX5 yX5_take yX5_take ∈ am_T := am_T_in 26 (by decide +kernel) (by decide +kernel)
theorem q_X5_removeLocomotive_113 : am_qV mX5_removeLocomotive 113 mX5_take 2 := ⟨cb_X5_removeLocomotive_X5_take 113, wd_739, wd_741, wd_26⟩
theorem cb_X5_removeLocomotive_X5_change (i : Nat) : am_cb mX5_removeLocomotive i mX5_change 0 := ⟨wd_714, wd_58, ⟨pl_X5.1, pl_X5.2, pd_X5_change⟩, Nat.le_of_ble_eq_true rfl, Nat.le_of_ble_eq_true rfl⟩
theorem q_X5_removeLocomotive_100 : am_qV mX5_removeLocomotive 100 mX5_change 0 := ⟨cb_X5_removeLocomotive_X5_change 100, wd_711, wd_713, wd_22⟩
theorem pf_X5_setDead : plainFor yX5_setDead = true := by unfold plainFor; rw [show plainName yX5_setDead.cls = true from pn_X5]; rfl
def mX5_setDead : am_M := (yX5_setDead, cX5_setDead, 4, some .int, 2, 43)
theorem pd_X5_isLocomotive : (parseMethodDescriptor yX5_isLocomotive.desc).map (fun d => d.parameters.length) = some 1 := by decide +kernel
theorem wd_750 : Cond.code yX5_isLocomotive cX5_isLocomotive 2 (some .boolean) ∈ am_T := am_T_in 750 (by decide +kernel) (by decide +kernel)
theorem cb_X5_setDead_X5_isLocomotive (i : Nat) : am_cb mX5_setDead i mX5_isLocomotive 1 := ⟨wd_750, wd_58, ⟨pl_X5.1, pl_X5.2, pd_X5_isLocomotive⟩, Nat.le_of_ble_eq_true rfl, Nat.le_of_ble_eq_true rfl⟩
theorem wd_747 : Cond.methodLink RX5 116 yX5_isLocomotive ∈ am_T := am_T_in 747 (by decide +kernel) (by decide +kernel)
theorem wd_749 : Cond.instanceMethod yX5_isLocomotive ∈ am_T := am_T_in 749 (by decide +kernel) (by decide +kernel)
theorem wd_27 : Cond.selects RX5 yX5_isLocomotive yX5_isLocomotive ∈ am_T := am_T_in 27 (by decide +kernel) (by decide +kernel)
theorem q_X5_setDead_116 : am_qV mX5_setDead 116 mX5_isLocomotive 1 := ⟨cb_X5_setDead_X5_isLocomotive 116, wd_747, wd_749, wd_27⟩
theorem bc_m3 : (Int8.ofInt (-3)).toInt32 = (-3) := by decide +kernel
theorem cb_X5_setDead_X5_change (i : Nat) : am_cb mX5_setDead i mX5_change 0 := ⟨wd_714, wd_58, ⟨pl_X5.1, pl_X5.2, pd_X5_change⟩, Nat.le_of_ble_eq_true rfl, Nat.le_of_ble_eq_true rfl⟩
theorem q_X5_setDead_100 : am_qV mX5_setDead 100 mX5_change 0 := ⟨cb_X5_setDead_X5_change 100, wd_711, wd_713, wd_22⟩
theorem pf_X5_locomotives : plainFor yX5_locomotives = true := by unfold plainFor; rw [show plainName yX5_locomotives.cls = true from pn_X5]; rfl
def mX5_locomotives : am_M := (yX5_locomotives, cX5_locomotives, 1, some .int, 0, 0)
theorem pf_X5_trackLength : plainFor yX5_trackLength = true := by unfold plainFor; rw [show plainName yX5_trackLength.cls = true from pn_X5]; rfl
def mX5_trackLength : am_M := (yX5_trackLength, cX5_trackLength, 2, some .int, 2, 42)
theorem cb_X5_trackLength_X5_isPosition (i : Nat) : am_cb mX5_trackLength i mX5_isPosition 1 := ⟨wd_699, wd_58, ⟨pl_X5.1, pl_X5.2, pd_X5_isPosition⟩, Nat.le_of_ble_eq_true rfl, Nat.le_of_ble_eq_true rfl⟩
theorem q_X5_trackLength_92 : am_qS mX5_trackLength 92 mX5_isPosition 1 ∨ am_qN mX5_trackLength 92 mX5_isPosition 1 := Or.inl ⟨cb_X5_trackLength_X5_isPosition 92, wd_697, wd_698⟩
theorem pf_X5_freeLength : plainFor yX5_freeLength = true := by unfold plainFor; rw [show plainName yX5_freeLength.cls = true from pn_X5]; rfl
def mX5_freeLength : am_M := (yX5_freeLength, cX5_freeLength, 2, some .int, 2, 45)
theorem cb_X5_freeLength_X5_in (i : Nat) : am_cb mX5_freeLength i mX5_in 3 := ⟨wd_702, wd_58, ⟨pl_X5.1, pl_X5.2, pd_X5_in⟩, Nat.le_of_ble_eq_true rfl, Nat.le_of_ble_eq_true rfl⟩
theorem q_X5_freeLength_84 : am_qS mX5_freeLength 84 mX5_in 3 ∨ am_qN mX5_freeLength 84 mX5_in 3 := Or.inl ⟨cb_X5_freeLength_X5_in 84, wd_700, wd_701⟩
theorem cb_X5_freeLength_X5_isTrack (i : Nat) : am_cb mX5_freeLength i mX5_isTrack 1 := ⟨wd_726, wd_58, ⟨pl_X5.1, pl_X5.2, pd_X5_isTrack⟩, Nat.le_of_ble_eq_true rfl, Nat.le_of_ble_eq_true rfl⟩
theorem q_X5_freeLength_103 : am_qV mX5_freeLength 103 mX5_isTrack 1 := ⟨cb_X5_freeLength_X5_isTrack 103, wd_723, wd_725, wd_23⟩
theorem cb_X5_freeLength_X5_used (i : Nat) : am_cb mX5_freeLength i mX5_used 1 := ⟨wd_706, wd_58, ⟨pl_X5.1, pl_X5.2, pd_X5_used⟩, Nat.le_of_ble_eq_true rfl, Nat.le_of_ble_eq_true rfl⟩
theorem q_X5_freeLength_96 : am_qV mX5_freeLength 96 mX5_used 1 := ⟨cb_X5_freeLength_X5_used 96, wd_703, wd_705, wd_20⟩
theorem pf_X5_row : plainFor yX5_row = true := by unfold plainFor; rw [show plainName yX5_row.cls = true from pn_X5]; rfl
def mX5_row : am_M := (yX5_row, cX5_row, 4, some .int, 1, 22)
theorem cb_X5_row_X5_in (i : Nat) : am_cb mX5_row i mX5_in 3 := ⟨wd_702, wd_58, ⟨pl_X5.1, pl_X5.2, pd_X5_in⟩, Nat.le_of_ble_eq_true rfl, Nat.le_of_ble_eq_true rfl⟩
theorem q_X5_row_84 : am_qS mX5_row 84 mX5_in 3 ∨ am_qN mX5_row 84 mX5_in 3 := Or.inl ⟨cb_X5_row_X5_in 84, wd_700, wd_701⟩
theorem cb_X5_row_X5_isTrack (i : Nat) : am_cb mX5_row i mX5_isTrack 1 := ⟨wd_726, wd_58, ⟨pl_X5.1, pl_X5.2, pd_X5_isTrack⟩, Nat.le_of_ble_eq_true rfl, Nat.le_of_ble_eq_true rfl⟩
theorem q_X5_row_103 : am_qV mX5_row 103 mX5_isTrack 1 := ⟨cb_X5_row_X5_isTrack 103, wd_723, wd_725, wd_23⟩
theorem cb_X5_row_X5_cell (i : Nat) : am_cb mX5_row i mX5_cell 2 := ⟨wd_710, wd_58, ⟨pl_X5.1, pl_X5.2, pd_X5_cell⟩, Nat.le_of_ble_eq_true rfl, Nat.le_of_ble_eq_true rfl⟩
theorem q_X5_row_88 : am_qV mX5_row 88 mX5_cell 2 := ⟨cb_X5_row_X5_cell 88, wd_707, wd_709, wd_21⟩
theorem pf_X5_place : plainFor yX5_place = true := by unfold plainFor; rw [show plainName yX5_place.cls = true from pn_X5]; rfl
def mX5_place : am_M := (yX5_place, cX5_place, 2, some .int, 2, 45)
theorem cb_X5_place_X5_isLocomotive (i : Nat) : am_cb mX5_place i mX5_isLocomotive 1 := ⟨wd_750, wd_58, ⟨pl_X5.1, pl_X5.2, pd_X5_isLocomotive⟩, Nat.le_of_ble_eq_true rfl, Nat.le_of_ble_eq_true rfl⟩
theorem q_X5_place_116 : am_qV mX5_place 116 mX5_isLocomotive 1 := ⟨cb_X5_place_X5_isLocomotive 116, wd_747, wd_749, wd_27⟩
theorem cb_X5_place_X5_placeOf (i : Nat) : am_cb mX5_place i mX5_placeOf 1 := ⟨wd_738, wd_58, ⟨pl_X5.1, pl_X5.2, pd_X5_placeOf⟩, Nat.le_of_ble_eq_true rfl, Nat.le_of_ble_eq_true rfl⟩
theorem q_X5_place_110 : am_qV mX5_place 110 mX5_placeOf 1 := ⟨cb_X5_place_X5_placeOf 110, wd_735, wd_737, wd_25⟩
theorem pf_X5_isEnd : plainFor yX5_isEnd = true := by unfold plainFor; rw [show plainName yX5_isEnd.cls = true from pn_X5]; rfl
def mX5_isEnd : am_M := (yX5_isEnd, cX5_isEnd, 1, some .boolean, 1, 22)
theorem cb_X5_isEnd_X5_in (i : Nat) : am_cb mX5_isEnd i mX5_in 3 := ⟨wd_702, wd_58, ⟨pl_X5.1, pl_X5.2, pd_X5_in⟩, Nat.le_of_ble_eq_true rfl, Nat.le_of_ble_eq_true rfl⟩
theorem q_X5_isEnd_84 : am_qS mX5_isEnd 84 mX5_in 3 ∨ am_qN mX5_isEnd 84 mX5_in 3 := Or.inl ⟨cb_X5_isEnd_X5_in 84, wd_700, wd_701⟩
theorem pf_X5_pointed : plainFor yX5_pointed = true := by unfold plainFor; rw [show plainName yX5_pointed.cls = true from pn_X5]; rfl
def mX5_pointed : am_M := (yX5_pointed, cX5_pointed, 2, some .int, 0, 0)
theorem pf_X5_pointsTo : plainFor yX5_pointsTo = true := by unfold plainFor; rw [show plainName yX5_pointsTo.cls = true from pn_X5]; rfl
def mX5_pointsTo : am_M := (yX5_pointsTo, cX5_pointsTo, 2, some .int, 2, 42)
theorem pd_X5_isEnd : (parseMethodDescriptor yX5_isEnd.desc).map (fun d => d.parameters.length) = some 1 := by decide +kernel
theorem wd_777 : Cond.code yX5_isEnd cX5_isEnd 1 (some .boolean) ∈ am_T := am_T_in 777 (by decide +kernel) (by decide +kernel)
theorem cb_X5_pointsTo_X5_isEnd (i : Nat) : am_cb mX5_pointsTo i mX5_isEnd 1 := ⟨wd_777, wd_58, ⟨pl_X5.1, pl_X5.2, pd_X5_isEnd⟩, Nat.le_of_ble_eq_true rfl, Nat.le_of_ble_eq_true rfl⟩
theorem wd_775 : Cond.methodLink RX5 119 yX5_isEnd ∈ am_T := am_T_in 775 (by decide +kernel) (by decide +kernel)
theorem wd_776 : Cond.static yX5_isEnd ∈ am_T := am_T_in 776 (by decide +kernel) (by decide +kernel)
theorem q_X5_pointsTo_119 : am_qS mX5_pointsTo 119 mX5_isEnd 1 ∨ am_qN mX5_pointsTo 119 mX5_isEnd 1 := Or.inl ⟨cb_X5_pointsTo_X5_isEnd 119, wd_775, wd_776⟩
theorem pd_X5_pointed : (parseMethodDescriptor yX5_pointed.desc).map (fun d => d.parameters.length) = some 1 := by decide +kernel
theorem wd_781 : Cond.code yX5_pointed cX5_pointed 2 (some .int) ∈ am_T := am_T_in 781 (by decide +kernel) (by decide +kernel)
theorem cb_X5_pointsTo_X5_pointed (i : Nat) : am_cb mX5_pointsTo i mX5_pointed 1 := ⟨wd_781, wd_58, ⟨pl_X5.1, pl_X5.2, pd_X5_pointed⟩, Nat.le_of_ble_eq_true rfl, Nat.le_of_ble_eq_true rfl⟩
theorem wd_778 : Cond.methodLink RX5 122 yX5_pointed ∈ am_T := am_T_in 778 (by decide +kernel) (by decide +kernel)
theorem wd_780 : Cond.instanceMethod yX5_pointed ∈ am_T := am_T_in 780 (by decide +kernel) (by decide +kernel)
theorem wd_28 : Cond.selects RX5 yX5_pointed yX5_pointed ∈ am_T := am_T_in 28 (by decide +kernel) (by decide +kernel)
theorem q_X5_pointsTo_122 : am_qV mX5_pointsTo 122 mX5_pointed 1 := ⟨cb_X5_pointsTo_X5_pointed 122, wd_778, wd_780, wd_28⟩
theorem pf_X5_write : plainFor yX5_write = true := by unfold plainFor; rw [show plainName yX5_write.cls = true from pn_X5]; rfl
def mX5_write : am_M := (yX5_write, cX5_write, 3, none, 0, 0)
theorem fl_X5_81 : am_fl RX5 81 5 4 := ⟨RX5, TX5, 32, tyX5, cl_X5, Nat.le_of_ble_eq_true rfl, rfl, Or.inl wd_599⟩
theorem fl_X5_20 : am_fl RX5 20 5 5 := ⟨RX5, TX5, 32, tyX5, cl_X5, Nat.le_of_ble_eq_true rfl, rfl, Or.inl wd_600⟩
theorem pf_X5_turnBy : plainFor yX5_turnBy = true := by unfold plainFor; rw [show plainName yX5_turnBy.cls = true from pn_X5]; rfl
def mX5_turnBy : am_M := (yX5_turnBy, cX5_turnBy, 2, none, 0, 0)
theorem pf_X5_turn : plainFor yX5_turn = true := by unfold plainFor; rw [show plainName yX5_turn.cls = true from pn_X5]; rfl
def mX5_turn : am_M := (yX5_turn, cX5_turn, 4, some .int, 1, 22)
theorem cb_X5_turn_X5_in (i : Nat) : am_cb mX5_turn i mX5_in 3 := ⟨wd_702, wd_58, ⟨pl_X5.1, pl_X5.2, pd_X5_in⟩, Nat.le_of_ble_eq_true rfl, Nat.le_of_ble_eq_true rfl⟩
theorem q_X5_turn_84 : am_qS mX5_turn 84 mX5_in 3 ∨ am_qN mX5_turn 84 mX5_in 3 := Or.inl ⟨cb_X5_turn_X5_in 84, wd_700, wd_701⟩
theorem pd_X5_turnBy : (parseMethodDescriptor yX5_turnBy.desc).map (fun d => d.parameters.length) = some 1 := by decide +kernel
theorem wd_789 : Cond.code yX5_turnBy cX5_turnBy 2 none ∈ am_T := am_T_in 789 (by decide +kernel) (by decide +kernel)
theorem cb_X5_turn_X5_turnBy (i : Nat) : am_cb mX5_turn i mX5_turnBy 1 := ⟨wd_789, wd_58, ⟨pl_X5.1, pl_X5.2, pd_X5_turnBy⟩, Nat.le_of_ble_eq_true rfl, Nat.le_of_ble_eq_true rfl⟩
theorem wd_786 : Cond.methodLink RX5 125 yX5_turnBy ∈ am_T := am_T_in 786 (by decide +kernel) (by decide +kernel)
theorem wd_788 : Cond.instanceMethod yX5_turnBy ∈ am_T := am_T_in 788 (by decide +kernel) (by decide +kernel)
theorem wd_29 : Cond.selects RX5 yX5_turnBy yX5_turnBy ∈ am_T := am_T_in 29 (by decide +kernel) (by decide +kernel)
theorem q_X5_turn_125 : am_qV mX5_turn 125 mX5_turnBy 1 := ⟨cb_X5_turn_X5_turnBy 125, wd_786, wd_788, wd_29⟩
theorem pd_X5_write : (parseMethodDescriptor yX5_write.desc).map (fun d => d.parameters.length) = some 1 := by decide +kernel
theorem wd_793 : Cond.code yX5_write cX5_write 3 none ∈ am_T := am_T_in 793 (by decide +kernel) (by decide +kernel)
theorem cb_X5_turn_X5_write (i : Nat) : am_cb mX5_turn i mX5_write 1 := ⟨wd_793, wd_58, ⟨pl_X5.1, pl_X5.2, pd_X5_write⟩, Nat.le_of_ble_eq_true rfl, Nat.le_of_ble_eq_true rfl⟩
theorem wd_790 : Cond.methodLink RX5 129 yX5_write ∈ am_T := am_T_in 790 (by decide +kernel) (by decide +kernel)
theorem wd_792 : Cond.instanceMethod yX5_write ∈ am_T := am_T_in 792 (by decide +kernel) (by decide +kernel)
theorem wd_30 : Cond.selects RX5 yX5_write yX5_write ∈ am_T := am_T_in 30 (by decide +kernel) (by decide +kernel)
theorem q_X5_turn_129 : am_qV mX5_turn 129 mX5_write 1 := ⟨cb_X5_turn_X5_write 129, wd_790, wd_792, wd_30⟩
theorem wd_598 : Cond.fieldLink RX5 132 RX5 "made" "I" ∈ am_T := am_T_in 598 (by decide +kernel) (by decide +kernel)
theorem fl_X5_132 : am_fl RX5 132 5 3 := ⟨RX5, TX5, 32, tyX5, cl_X5, Nat.le_of_ble_eq_true rfl, rfl, Or.inl wd_598⟩
theorem fp_X5_132 : am_fp RX5 132 5 3 .int false := ⟨RX5, TX5, 32, tyX5, cl_X5, Nat.le_of_ble_eq_true rfl, rfl, rfl, rfl, Or.inl ⟨wd_598, fun _ => rfl⟩⟩
theorem pf_X5_goIn : plainFor yX5_goIn = true := by unfold plainFor; rw [show plainName yX5_goIn.cls = true from pn_X5]; rfl
def mX5_goIn : am_M := (yX5_goIn, cX5_goIn, 6, none, 2, 46)
theorem cb_X5_goIn_X5_pointed (i : Nat) : am_cb mX5_goIn i mX5_pointed 1 := ⟨wd_781, wd_58, ⟨pl_X5.1, pl_X5.2, pd_X5_pointed⟩, Nat.le_of_ble_eq_true rfl, Nat.le_of_ble_eq_true rfl⟩
theorem q_X5_goIn_122 : am_qV mX5_goIn 122 mX5_pointed 1 := ⟨cb_X5_goIn_X5_pointed 122, wd_778, wd_780, wd_28⟩
theorem cb_X5_goIn_X5_take (i : Nat) : am_cb mX5_goIn i mX5_take 2 := ⟨wd_742, wd_58, ⟨pl_X5.1, pl_X5.2, pd_X5_take⟩, Nat.le_of_ble_eq_true rfl, Nat.le_of_ble_eq_true rfl⟩
theorem q_X5_goIn_113 : am_qV mX5_goIn 113 mX5_take 2 := ⟨cb_X5_goIn_X5_take 113, wd_739, wd_741, wd_26⟩
theorem cb_X5_goIn_X5_insert (i : Nat) : am_cb mX5_goIn i mX5_insert 3 := ⟨wd_730, wd_58, ⟨pl_X5.1, pl_X5.2, pd_X5_insert⟩, Nat.le_of_ble_eq_true rfl, Nat.le_of_ble_eq_true rfl⟩
theorem q_X5_goIn_106 : am_qV mX5_goIn 106 mX5_insert 3 := ⟨cb_X5_goIn_X5_insert 106, wd_727, wd_729, wd_24⟩
theorem bc_43 : (Int8.ofInt 43).toInt32 = 43 := by decide +kernel
theorem pf_X5_goOut : plainFor yX5_goOut = true := by unfold plainFor; rw [show plainName yX5_goOut.cls = true from pn_X5]; rfl
def mX5_goOut : am_M := (yX5_goOut, cX5_goOut, 6, none, 2, 46)
theorem cb_X5_goOut_X5_pointed (i : Nat) : am_cb mX5_goOut i mX5_pointed 1 := ⟨wd_781, wd_58, ⟨pl_X5.1, pl_X5.2, pd_X5_pointed⟩, Nat.le_of_ble_eq_true rfl, Nat.le_of_ble_eq_true rfl⟩
theorem q_X5_goOut_122 : am_qV mX5_goOut 122 mX5_pointed 1 := ⟨cb_X5_goOut_X5_pointed 122, wd_778, wd_780, wd_28⟩
theorem cb_X5_goOut_X5_take (i : Nat) : am_cb mX5_goOut i mX5_take 2 := ⟨wd_742, wd_58, ⟨pl_X5.1, pl_X5.2, pd_X5_take⟩, Nat.le_of_ble_eq_true rfl, Nat.le_of_ble_eq_true rfl⟩
theorem q_X5_goOut_113 : am_qV mX5_goOut 113 mX5_take 2 := ⟨cb_X5_goOut_X5_take 113, wd_739, wd_741, wd_26⟩
theorem cb_X5_goOut_X5_insert (i : Nat) : am_cb mX5_goOut i mX5_insert 3 := ⟨wd_730, wd_58, ⟨pl_X5.1, pl_X5.2, pd_X5_insert⟩, Nat.le_of_ble_eq_true rfl, Nat.le_of_ble_eq_true rfl⟩
theorem q_X5_goOut_106 : am_qV mX5_goOut 106 mX5_insert 3 := ⟨cb_X5_goOut_X5_insert 106, wd_727, wd_729, wd_24⟩
theorem pf_X5_wrongMove : plainFor yX5_wrongMove = true := by unfold plainFor; rw [show plainName yX5_wrongMove.cls = true from pn_X5]; rfl
def mX5_wrongMove : am_M := (yX5_wrongMove, cX5_wrongMove, 9, some .int, 2, 45)
theorem cb_X5_wrongMove_X5_used (i : Nat) : am_cb mX5_wrongMove i mX5_used 1 := ⟨wd_706, wd_58, ⟨pl_X5.1, pl_X5.2, pd_X5_used⟩, Nat.le_of_ble_eq_true rfl, Nat.le_of_ble_eq_true rfl⟩
theorem q_X5_wrongMove_96 : am_qV mX5_wrongMove 96 mX5_used 1 := ⟨cb_X5_wrongMove_X5_used 96, wd_703, wd_705, wd_20⟩
theorem cb_X5_wrongMove_X5_cell (i : Nat) : am_cb mX5_wrongMove i mX5_cell 2 := ⟨wd_710, wd_58, ⟨pl_X5.1, pl_X5.2, pd_X5_cell⟩, Nat.le_of_ble_eq_true rfl, Nat.le_of_ble_eq_true rfl⟩
theorem q_X5_wrongMove_88 : am_qV mX5_wrongMove 88 mX5_cell 2 := ⟨cb_X5_wrongMove_X5_cell 88, wd_707, wd_709, wd_21⟩
theorem pf_X5_moveIn : plainFor yX5_moveIn = true := by unfold plainFor; rw [show plainName yX5_moveIn.cls = true from pn_X5]; rfl
def mX5_moveIn : am_M := (yX5_moveIn, cX5_moveIn, 5, some .int, 3, 73)
theorem cb_X5_moveIn_X5_isEnd (i : Nat) : am_cb mX5_moveIn i mX5_isEnd 1 := ⟨wd_777, wd_58, ⟨pl_X5.1, pl_X5.2, pd_X5_isEnd⟩, Nat.le_of_ble_eq_true rfl, Nat.le_of_ble_eq_true rfl⟩
theorem q_X5_moveIn_119 : am_qS mX5_moveIn 119 mX5_isEnd 1 ∨ am_qN mX5_moveIn 119 mX5_isEnd 1 := Or.inl ⟨cb_X5_moveIn_X5_isEnd 119, wd_775, wd_776⟩
theorem cb_X5_moveIn_X5_pointed (i : Nat) : am_cb mX5_moveIn i mX5_pointed 1 := ⟨wd_781, wd_58, ⟨pl_X5.1, pl_X5.2, pd_X5_pointed⟩, Nat.le_of_ble_eq_true rfl, Nat.le_of_ble_eq_true rfl⟩
theorem q_X5_moveIn_122 : am_qV mX5_moveIn 122 mX5_pointed 1 := ⟨cb_X5_moveIn_X5_pointed 122, wd_778, wd_780, wd_28⟩
theorem cb_X5_moveIn_X5_isTrack (i : Nat) : am_cb mX5_moveIn i mX5_isTrack 1 := ⟨wd_726, wd_58, ⟨pl_X5.1, pl_X5.2, pd_X5_isTrack⟩, Nat.le_of_ble_eq_true rfl, Nat.le_of_ble_eq_true rfl⟩
theorem q_X5_moveIn_103 : am_qV mX5_moveIn 103 mX5_isTrack 1 := ⟨cb_X5_moveIn_X5_isTrack 103, wd_723, wd_725, wd_23⟩
theorem pd_X5_wrongMove : (parseMethodDescriptor yX5_wrongMove.desc).map (fun d => d.parameters.length) = some 4 := by decide +kernel
theorem wd_801 : Cond.code yX5_wrongMove cX5_wrongMove 9 (some .int) ∈ am_T := am_T_in 801 (by decide +kernel) (by decide +kernel)
theorem cb_X5_moveIn_X5_wrongMove (i : Nat) : am_cb mX5_moveIn i mX5_wrongMove 4 := ⟨wd_801, wd_58, ⟨pl_X5.1, pl_X5.2, pd_X5_wrongMove⟩, Nat.le_of_ble_eq_true rfl, Nat.le_of_ble_eq_true rfl⟩
theorem wd_798 : Cond.methodLink RX5 135 yX5_wrongMove ∈ am_T := am_T_in 798 (by decide +kernel) (by decide +kernel)
theorem wd_800 : Cond.instanceMethod yX5_wrongMove ∈ am_T := am_T_in 800 (by decide +kernel) (by decide +kernel)
theorem wd_31 : Cond.selects RX5 yX5_wrongMove yX5_wrongMove ∈ am_T := am_T_in 31 (by decide +kernel) (by decide +kernel)
theorem q_X5_moveIn_135 : am_qV mX5_moveIn 135 mX5_wrongMove 4 := ⟨cb_X5_moveIn_X5_wrongMove 135, wd_798, wd_800, wd_31⟩
theorem pd_X5_goIn : (parseMethodDescriptor yX5_goIn.desc).map (fun d => d.parameters.length) = some 2 := by decide +kernel
theorem wd_805 : Cond.code yX5_goIn cX5_goIn 6 none ∈ am_T := am_T_in 805 (by decide +kernel) (by decide +kernel)
theorem cb_X5_moveIn_X5_goIn (i : Nat) : am_cb mX5_moveIn i mX5_goIn 2 := ⟨wd_805, wd_58, ⟨pl_X5.1, pl_X5.2, pd_X5_goIn⟩, Nat.le_of_ble_eq_true rfl, Nat.le_of_ble_eq_true rfl⟩
theorem wd_802 : Cond.methodLink RX5 139 yX5_goIn ∈ am_T := am_T_in 802 (by decide +kernel) (by decide +kernel)
theorem wd_804 : Cond.instanceMethod yX5_goIn ∈ am_T := am_T_in 804 (by decide +kernel) (by decide +kernel)
theorem wd_32 : Cond.selects RX5 yX5_goIn yX5_goIn ∈ am_T := am_T_in 32 (by decide +kernel) (by decide +kernel)
theorem q_X5_moveIn_139 : am_qV mX5_moveIn 139 mX5_goIn 2 := ⟨cb_X5_moveIn_X5_goIn 139, wd_802, wd_804, wd_32⟩
theorem cb_X5_moveIn_X5_write (i : Nat) : am_cb mX5_moveIn i mX5_write 1 := ⟨wd_793, wd_58, ⟨pl_X5.1, pl_X5.2, pd_X5_write⟩, Nat.le_of_ble_eq_true rfl, Nat.le_of_ble_eq_true rfl⟩
theorem q_X5_moveIn_129 : am_qV mX5_moveIn 129 mX5_write 1 := ⟨cb_X5_moveIn_X5_write 129, wd_790, wd_792, wd_30⟩
theorem pf_X5_moveOut : plainFor yX5_moveOut = true := by unfold plainFor; rw [show plainName yX5_moveOut.cls = true from pn_X5]; rfl
def mX5_moveOut : am_M := (yX5_moveOut, cX5_moveOut, 6, some .int, 3, 73)
theorem cb_X5_moveOut_X5_isEnd (i : Nat) : am_cb mX5_moveOut i mX5_isEnd 1 := ⟨wd_777, wd_58, ⟨pl_X5.1, pl_X5.2, pd_X5_isEnd⟩, Nat.le_of_ble_eq_true rfl, Nat.le_of_ble_eq_true rfl⟩
theorem q_X5_moveOut_119 : am_qS mX5_moveOut 119 mX5_isEnd 1 ∨ am_qN mX5_moveOut 119 mX5_isEnd 1 := Or.inl ⟨cb_X5_moveOut_X5_isEnd 119, wd_775, wd_776⟩
theorem cb_X5_moveOut_X5_pointed (i : Nat) : am_cb mX5_moveOut i mX5_pointed 1 := ⟨wd_781, wd_58, ⟨pl_X5.1, pl_X5.2, pd_X5_pointed⟩, Nat.le_of_ble_eq_true rfl, Nat.le_of_ble_eq_true rfl⟩
theorem q_X5_moveOut_122 : am_qV mX5_moveOut 122 mX5_pointed 1 := ⟨cb_X5_moveOut_X5_pointed 122, wd_778, wd_780, wd_28⟩
theorem cb_X5_moveOut_X5_isTrack (i : Nat) : am_cb mX5_moveOut i mX5_isTrack 1 := ⟨wd_726, wd_58, ⟨pl_X5.1, pl_X5.2, pd_X5_isTrack⟩, Nat.le_of_ble_eq_true rfl, Nat.le_of_ble_eq_true rfl⟩
theorem q_X5_moveOut_103 : am_qV mX5_moveOut 103 mX5_isTrack 1 := ⟨cb_X5_moveOut_X5_isTrack 103, wd_723, wd_725, wd_23⟩
theorem cb_X5_moveOut_X5_wrongMove (i : Nat) : am_cb mX5_moveOut i mX5_wrongMove 4 := ⟨wd_801, wd_58, ⟨pl_X5.1, pl_X5.2, pd_X5_wrongMove⟩, Nat.le_of_ble_eq_true rfl, Nat.le_of_ble_eq_true rfl⟩
theorem q_X5_moveOut_135 : am_qV mX5_moveOut 135 mX5_wrongMove 4 := ⟨cb_X5_moveOut_X5_wrongMove 135, wd_798, wd_800, wd_31⟩
theorem pd_X5_goOut : (parseMethodDescriptor yX5_goOut.desc).map (fun d => d.parameters.length) = some 2 := by decide +kernel
theorem wd_813 : Cond.code yX5_goOut cX5_goOut 6 none ∈ am_T := am_T_in 813 (by decide +kernel) (by decide +kernel)
theorem cb_X5_moveOut_X5_goOut (i : Nat) : am_cb mX5_moveOut i mX5_goOut 2 := ⟨wd_813, wd_58, ⟨pl_X5.1, pl_X5.2, pd_X5_goOut⟩, Nat.le_of_ble_eq_true rfl, Nat.le_of_ble_eq_true rfl⟩
theorem wd_810 : Cond.methodLink RX5 143 yX5_goOut ∈ am_T := am_T_in 810 (by decide +kernel) (by decide +kernel)
theorem wd_812 : Cond.instanceMethod yX5_goOut ∈ am_T := am_T_in 812 (by decide +kernel) (by decide +kernel)
theorem wd_33 : Cond.selects RX5 yX5_goOut yX5_goOut ∈ am_T := am_T_in 33 (by decide +kernel) (by decide +kernel)
theorem q_X5_moveOut_143 : am_qV mX5_moveOut 143 mX5_goOut 2 := ⟨cb_X5_moveOut_X5_goOut 143, wd_810, wd_812, wd_33⟩
theorem cb_X5_moveOut_X5_write (i : Nat) : am_cb mX5_moveOut i mX5_write 1 := ⟨wd_793, wd_58, ⟨pl_X5.1, pl_X5.2, pd_X5_write⟩, Nat.le_of_ble_eq_true rfl, Nat.le_of_ble_eq_true rfl⟩
theorem q_X5_moveOut_129 : am_qV mX5_moveOut 129 mX5_write 1 := ⟨cb_X5_moveOut_X5_write 129, wd_790, wd_792, wd_30⟩
theorem pf_X5_turnsMade : plainFor yX5_turnsMade = true := by unfold plainFor; rw [show plainName yX5_turnsMade.cls = true from pn_X5]; rfl
def mX5_turnsMade : am_M := (yX5_turnsMade, cX5_turnsMade, 1, some .int, 0, 0)
theorem pf_X5_undo : plainFor yX5_undo = true := by unfold plainFor; rw [show plainName yX5_undo.cls = true from pn_X5]; rfl
def mX5_undo : am_M := (yX5_undo, cX5_undo, 2, some .int, 3, 71)
theorem cb_X5_undo_X5_goIn (i : Nat) : am_cb mX5_undo i mX5_goIn 2 := ⟨wd_805, wd_58, ⟨pl_X5.1, pl_X5.2, pd_X5_goIn⟩, Nat.le_of_ble_eq_true rfl, Nat.le_of_ble_eq_true rfl⟩
theorem q_X5_undo_139 : am_qV mX5_undo 139 mX5_goIn 2 := ⟨cb_X5_undo_X5_goIn 139, wd_802, wd_804, wd_32⟩
theorem cb_X5_undo_X5_goOut (i : Nat) : am_cb mX5_undo i mX5_goOut 2 := ⟨wd_813, wd_58, ⟨pl_X5.1, pl_X5.2, pd_X5_goOut⟩, Nat.le_of_ble_eq_true rfl, Nat.le_of_ble_eq_true rfl⟩
theorem q_X5_undo_143 : am_qV mX5_undo 143 mX5_goOut 2 := ⟨cb_X5_undo_X5_goOut 143, wd_810, wd_812, wd_33⟩
theorem cb_X5_undo_X5_turnBy (i : Nat) : am_cb mX5_undo i mX5_turnBy 1 := ⟨wd_789, wd_58, ⟨pl_X5.1, pl_X5.2, pd_X5_turnBy⟩, Nat.le_of_ble_eq_true rfl, Nat.le_of_ble_eq_true rfl⟩
theorem q_X5_undo_125 : am_qV mX5_undo 125 mX5_turnBy 1 := ⟨cb_X5_undo_X5_turnBy 125, wd_786, wd_788, wd_29⟩
theorem pf_X5_log : plainFor yX5_log = true := by unfold plainFor; rw [show plainName yX5_log.cls = true from pn_X5]; rfl
def mX5_log : am_M := (yX5_log, cX5_log, 2, some .int, 1, 22)
theorem cb_X5_log_X5_in (i : Nat) : am_cb mX5_log i mX5_in 3 := ⟨wd_702, wd_58, ⟨pl_X5.1, pl_X5.2, pd_X5_in⟩, Nat.le_of_ble_eq_true rfl, Nat.le_of_ble_eq_true rfl⟩
theorem q_X5_log_84 : am_qS mX5_log 84 mX5_in 3 ∨ am_qN mX5_log 84 mX5_in 3 := Or.inl ⟨cb_X5_log_X5_in 84, wd_700, wd_701⟩
theorem pf_X5_layOrders : plainFor yX5_layOrders = true := by unfold plainFor; rw [show plainName yX5_layOrders.cls = true from pn_X5]; rfl
def mX5_layOrders : am_M := (yX5_layOrders, cX5_layOrders, 7, none, 0, 0)
theorem wd_602 : Cond.fieldLink RX5 146 RX5 "orders" "I" ∈ am_T := am_T_in 602 (by decide +kernel) (by decide +kernel)
theorem fp_X5_146 : am_fp RX5 146 5 7 .int false := ⟨RX5, TX5, 32, tyX5, cl_X5, Nat.le_of_ble_eq_true rfl, rfl, rfl, rfl, Or.inl ⟨wd_602, fun _ => rfl⟩⟩
theorem fl_X5_30 : am_fl RX5 30 5 9 := ⟨RX5, TX5, 32, tyX5, cl_X5, Nat.le_of_ble_eq_true rfl, rfl, Or.inl wd_604⟩
theorem fl_X5_146 : am_fl RX5 146 5 7 := ⟨RX5, TX5, 32, tyX5, cl_X5, Nat.le_of_ble_eq_true rfl, rfl, Or.inl wd_602⟩
theorem fl_X5_27 : am_fl RX5 27 5 8 := ⟨RX5, TX5, 32, tyX5, cl_X5, Nat.le_of_ble_eq_true rfl, rfl, Or.inl wd_603⟩
theorem nz_4 : ¬ (4 : Int32) = 0 := by decide +kernel
theorem pf_X5_layWays : plainFor yX5_layWays = true := by unfold plainFor; rw [show plainName yX5_layWays.cls = true from pn_X5]; rfl
def mX5_layWays : am_M := (yX5_layWays, cX5_layWays, 6, none, 0, 0)
theorem wd_605 : Cond.fieldLink RX5 149 RX5 "ways" "I" ∈ am_T := am_T_in 605 (by decide +kernel) (by decide +kernel)
theorem fp_X5_149 : am_fp RX5 149 5 10 .int false := ⟨RX5, TX5, 32, tyX5, cl_X5, Nat.le_of_ble_eq_true rfl, rfl, rfl, rfl, Or.inl ⟨wd_605, fun _ => rfl⟩⟩
theorem fl_X5_36 : am_fl RX5 36 5 12 := ⟨RX5, TX5, 32, tyX5, cl_X5, Nat.le_of_ble_eq_true rfl, rfl, Or.inl wd_607⟩
theorem fl_X5_149 : am_fl RX5 149 5 10 := ⟨RX5, TX5, 32, tyX5, cl_X5, Nat.le_of_ble_eq_true rfl, rfl, Or.inl wd_605⟩
theorem fl_X5_33 : am_fl RX5 33 5 11 := ⟨RX5, TX5, 32, tyX5, cl_X5, Nat.le_of_ble_eq_true rfl, rfl, Or.inl wd_606⟩
theorem ic_5 : Int32.ofInt 5 = 5 := by decide +kernel
theorem nz_5 : ¬ (5 : Int32) = 0 := by decide +kernel
theorem pf_X5_layRows : plainFor yX5_layRows = true := by unfold plainFor; rw [show plainName yX5_layRows.cls = true from pn_X5]; rfl
def mX5_layRows : am_M := (yX5_layRows, cX5_layRows, 2, none, 1, 21)
theorem wd_608 : Cond.fieldLink RX5 152 RX5 "tracks" "I" ∈ am_T := am_T_in 608 (by decide +kernel) (by decide +kernel)
theorem fp_X5_152 : am_fp RX5 152 5 13 .int false := ⟨RX5, TX5, 32, tyX5, cl_X5, Nat.le_of_ble_eq_true rfl, rfl, rfl, rfl, Or.inl ⟨wd_608, fun _ => rfl⟩⟩
theorem fl_X5_39 : am_fl RX5 39 5 14 := ⟨RX5, TX5, 32, tyX5, cl_X5, Nat.le_of_ble_eq_true rfl, rfl, Or.inl wd_609⟩
theorem fl_X5_42 : am_fl RX5 42 5 15 := ⟨RX5, TX5, 32, tyX5, cl_X5, Nat.le_of_ble_eq_true rfl, rfl, Or.inl wd_610⟩
theorem cb_X5_layRows_X5_isTrack (i : Nat) : am_cb mX5_layRows i mX5_isTrack 1 := ⟨wd_726, wd_58, ⟨pl_X5.1, pl_X5.2, pd_X5_isTrack⟩, Nat.le_of_ble_eq_true rfl, Nat.le_of_ble_eq_true rfl⟩
theorem q_X5_layRows_103 : am_qV mX5_layRows 103 mX5_isTrack 1 := ⟨cb_X5_layRows_X5_isTrack 103, wd_723, wd_725, wd_23⟩
theorem fl_X5_152 : am_fl RX5 152 5 13 := ⟨RX5, TX5, 32, tyX5, cl_X5, Nat.le_of_ble_eq_true rfl, rfl, Or.inl wd_608⟩
theorem pf_X5_numberOf : plainFor yX5_numberOf = true := by unfold plainFor; rw [show plainName yX5_numberOf.cls = true from pn_X5]; rfl
def mX5_numberOf : am_M := (yX5_numberOf, cX5_numberOf, 7, some .int, 0, 0)
theorem bc_56 : (Int8.ofInt 56).toInt32 = 56 := by decide +kernel
theorem wd_613 : Cond.fieldLink RX5 155 RX5 "angle" "I" ∈ am_T := am_T_in 613 (by decide +kernel) (by decide +kernel)
theorem fl_X5_155 : am_fl RX5 155 5 18 := ⟨RX5, TX5, 32, tyX5, cl_X5, Nat.le_of_ble_eq_true rfl, rfl, Or.inl wd_613⟩
theorem fl_X5_48 : am_fl RX5 48 5 17 := ⟨RX5, TX5, 32, tyX5, cl_X5, Nat.le_of_ble_eq_true rfl, rfl, Or.inl wd_612⟩
theorem fl_X5_45 : am_fl RX5 45 5 16 := ⟨RX5, TX5, 32, tyX5, cl_X5, Nat.le_of_ble_eq_true rfl, rfl, Or.inl wd_611⟩
theorem pf_X5_layOut : plainFor yX5_layOut = true := by unfold plainFor; rw [show plainName yX5_layOut.cls = true from pn_X5]; rfl
def mX5_layOut : am_M := (yX5_layOut, cX5_layOut, 7, none, 0, 0)
theorem fp_X5_155 : am_fp RX5 155 5 18 .int false := ⟨RX5, TX5, 32, tyX5, cl_X5, Nat.le_of_ble_eq_true rfl, rfl, rfl, rfl, Or.inl ⟨wd_613, fun _ => rfl⟩⟩
theorem nz_56 : ¬ (56 : Int32) = 0 := by decide +kernel
theorem pf_X5_sum : plainFor yX5_sum = true := by unfold plainFor; rw [show plainName yX5_sum.cls = true from pn_X5]; rfl
def mX5_sum : am_M := (yX5_sum, cX5_sum, 6, some .int, 0, 0)
theorem pf_X5_canBe : plainFor yX5_canBe = true := by unfold plainFor; rw [show plainName yX5_canBe.cls = true from pn_X5]; rfl
def mX5_canBe : am_M := (yX5_canBe, cX5_canBe, 3, some .boolean, 1, 25)
theorem pd_X5_sum : (parseMethodDescriptor yX5_sum.desc).map (fun d => d.parameters.length) = some 3 := by decide +kernel
theorem wd_865 : Cond.code yX5_sum cX5_sum 6 (some .int) ∈ am_T := am_T_in 865 (by decide +kernel) (by decide +kernel)
theorem cb_X5_canBe_X5_sum (i : Nat) : am_cb mX5_canBe i mX5_sum 3 := ⟨wd_865, wd_58, ⟨pl_X5.1, pl_X5.2, pd_X5_sum⟩, Nat.le_of_ble_eq_true rfl, Nat.le_of_ble_eq_true rfl⟩
theorem wd_862 : Cond.methodLink RX5 158 yX5_sum ∈ am_T := am_T_in 862 (by decide +kernel) (by decide +kernel)
theorem wd_864 : Cond.instanceMethod yX5_sum ∈ am_T := am_T_in 864 (by decide +kernel) (by decide +kernel)
theorem wd_42 : Cond.selects RX5 yX5_sum yX5_sum ∈ am_T := am_T_in 42 (by decide +kernel) (by decide +kernel)
theorem q_X5_canBe_158 : am_qV mX5_canBe 158 mX5_sum 3 := ⟨cb_X5_canBe_X5_sum 158, wd_862, wd_864, wd_42⟩
theorem pf_X5_insertHere : plainFor yX5_insertHere = true := by unfold plainFor; rw [show plainName yX5_insertHere.cls = true from pn_X5]; rfl
def mX5_insertHere : am_M := (yX5_insertHere, cX5_insertHere, 5, none, 0, 0)
theorem pf_X5_takeHere : plainFor yX5_takeHere = true := by unfold plainFor; rw [show plainName yX5_takeHere.cls = true from pn_X5]; rfl
def mX5_takeHere : am_M := (yX5_takeHere, cX5_takeHere, 5, some .int, 0, 0)
theorem pf_X5_behind : plainFor yX5_behind = true := by unfold plainFor; rw [show plainName yX5_behind.cls = true from pn_X5]; rfl
def mX5_behind : am_M := (yX5_behind, cX5_behind, 14, some .int, 1, 26)
theorem pd_X5_layOut : (parseMethodDescriptor yX5_layOut.desc).map (fun d => d.parameters.length) = some 1 := by decide +kernel
theorem wd_857 : Cond.code yX5_layOut cX5_layOut 7 none ∈ am_T := am_T_in 857 (by decide +kernel) (by decide +kernel)
theorem cb_X5_behind_X5_layOut (i : Nat) : am_cb mX5_behind i mX5_layOut 1 := ⟨wd_857, wd_58, ⟨pl_X5.1, pl_X5.2, pd_X5_layOut⟩, Nat.le_of_ble_eq_true rfl, Nat.le_of_ble_eq_true rfl⟩
theorem wd_854 : Cond.methodLink RX5 162 yX5_layOut ∈ am_T := am_T_in 854 (by decide +kernel) (by decide +kernel)
theorem wd_856 : Cond.instanceMethod yX5_layOut ∈ am_T := am_T_in 856 (by decide +kernel) (by decide +kernel)
theorem wd_40 : Cond.selects RX5 yX5_layOut yX5_layOut ∈ am_T := am_T_in 40 (by decide +kernel) (by decide +kernel)
theorem q_X5_behind_162 : am_qV mX5_behind 162 mX5_layOut 1 := ⟨cb_X5_behind_X5_layOut 162, wd_854, wd_856, wd_40⟩
theorem cb_X5_behind_X5_sum (i : Nat) : am_cb mX5_behind i mX5_sum 3 := ⟨wd_865, wd_58, ⟨pl_X5.1, pl_X5.2, pd_X5_sum⟩, Nat.le_of_ble_eq_true rfl, Nat.le_of_ble_eq_true rfl⟩
theorem q_X5_behind_158 : am_qV mX5_behind 158 mX5_sum 3 := ⟨cb_X5_behind_X5_sum 158, wd_862, wd_864, wd_42⟩
theorem pd_X5_numberOf : (parseMethodDescriptor yX5_numberOf.desc).map (fun d => d.parameters.length) = some 0 := by decide +kernel
theorem wd_897 : Cond.code yX5_numberOf cX5_numberOf 7 (some .int) ∈ am_T := am_T_in 897 (by decide +kernel) (by decide +kernel)
theorem cb_X5_behind_X5_numberOf (i : Nat) : am_cb mX5_behind i mX5_numberOf 0 := ⟨wd_897, wd_58, ⟨pl_X5.1, pl_X5.2, pd_X5_numberOf⟩, Nat.le_of_ble_eq_true rfl, Nat.le_of_ble_eq_true rfl⟩
theorem wd_894 : Cond.methodLink RX5 171 yX5_numberOf ∈ am_T := am_T_in 894 (by decide +kernel) (by decide +kernel)
theorem wd_896 : Cond.instanceMethod yX5_numberOf ∈ am_T := am_T_in 896 (by decide +kernel) (by decide +kernel)
theorem wd_50 : Cond.selects RX5 yX5_numberOf yX5_numberOf ∈ am_T := am_T_in 50 (by decide +kernel) (by decide +kernel)
theorem q_X5_behind_171 : am_qV mX5_behind 171 mX5_numberOf 0 := ⟨cb_X5_behind_X5_numberOf 171, wd_894, wd_896, wd_50⟩
theorem pd_X5_takeHere : (parseMethodDescriptor yX5_takeHere.desc).map (fun d => d.parameters.length) = some 2 := by decide +kernel
theorem wd_889 : Cond.code yX5_takeHere cX5_takeHere 5 (some .int) ∈ am_T := am_T_in 889 (by decide +kernel) (by decide +kernel)
theorem cb_X5_behind_X5_takeHere (i : Nat) : am_cb mX5_behind i mX5_takeHere 2 := ⟨wd_889, wd_58, ⟨pl_X5.1, pl_X5.2, pd_X5_takeHere⟩, Nat.le_of_ble_eq_true rfl, Nat.le_of_ble_eq_true rfl⟩
theorem wd_886 : Cond.methodLink RX5 165 yX5_takeHere ∈ am_T := am_T_in 886 (by decide +kernel) (by decide +kernel)
theorem wd_888 : Cond.instanceMethod yX5_takeHere ∈ am_T := am_T_in 888 (by decide +kernel) (by decide +kernel)
theorem wd_48 : Cond.selects RX5 yX5_takeHere yX5_takeHere ∈ am_T := am_T_in 48 (by decide +kernel) (by decide +kernel)
theorem q_X5_behind_165 : am_qV mX5_behind 165 mX5_takeHere 2 := ⟨cb_X5_behind_X5_takeHere 165, wd_886, wd_888, wd_48⟩
theorem pd_X5_insertHere : (parseMethodDescriptor yX5_insertHere.desc).map (fun d => d.parameters.length) = some 3 := by decide +kernel
theorem wd_893 : Cond.code yX5_insertHere cX5_insertHere 5 none ∈ am_T := am_T_in 893 (by decide +kernel) (by decide +kernel)
theorem cb_X5_behind_X5_insertHere (i : Nat) : am_cb mX5_behind i mX5_insertHere 3 := ⟨wd_893, wd_58, ⟨pl_X5.1, pl_X5.2, pd_X5_insertHere⟩, Nat.le_of_ble_eq_true rfl, Nat.le_of_ble_eq_true rfl⟩
theorem wd_890 : Cond.methodLink RX5 168 yX5_insertHere ∈ am_T := am_T_in 890 (by decide +kernel) (by decide +kernel)
theorem wd_892 : Cond.instanceMethod yX5_insertHere ∈ am_T := am_T_in 892 (by decide +kernel) (by decide +kernel)
theorem wd_49 : Cond.selects RX5 yX5_insertHere yX5_insertHere ∈ am_T := am_T_in 49 (by decide +kernel) (by decide +kernel)
theorem q_X5_behind_168 : am_qV mX5_behind 168 mX5_insertHere 3 := ⟨cb_X5_behind_X5_insertHere 168, wd_890, wd_892, wd_49⟩
theorem pf_X5_addTurned : plainFor yX5_addTurned = true := by unfold plainFor; rw [show plainName yX5_addTurned.cls = true from pn_X5]; rfl
def mX5_addTurned : am_M := (yX5_addTurned, cX5_addTurned, 4, none, 0, 0)
theorem fl_X5_57 : am_fl RX5 57 5 21 := ⟨RX5, TX5, 32, tyX5, cl_X5, Nat.le_of_ble_eq_true rfl, rfl, Or.inl wd_616⟩
theorem fl_X5_75 : am_fl RX5 75 5 27 := ⟨RX5, TX5, 32, tyX5, cl_X5, Nat.le_of_ble_eq_true rfl, rfl, Or.inl wd_622⟩
theorem fl_X5_69 : am_fl RX5 69 5 25 := ⟨RX5, TX5, 32, tyX5, cl_X5, Nat.le_of_ble_eq_true rfl, rfl, Or.inl wd_620⟩
theorem wd_624 : Cond.fieldLink RX5 175 RX5 "turnedMany" "I" ∈ am_T := am_T_in 624 (by decide +kernel) (by decide +kernel)
theorem fl_X5_175 : am_fl RX5 175 5 29 := ⟨RX5, TX5, 32, tyX5, cl_X5, Nat.le_of_ble_eq_true rfl, rfl, Or.inl wd_624⟩
theorem fl_X5_60 : am_fl RX5 60 5 22 := ⟨RX5, TX5, 32, tyX5, cl_X5, Nat.le_of_ble_eq_true rfl, rfl, Or.inl wd_617⟩
theorem fp_X5_175 : am_fp RX5 175 5 29 .int false := ⟨RX5, TX5, 32, tyX5, cl_X5, Nat.le_of_ble_eq_true rfl, rfl, rfl, rfl, Or.inl ⟨wd_624, fun _ => rfl⟩⟩
theorem pf_X5_addMoved : plainFor yX5_addMoved = true := by unfold plainFor; rw [show plainName yX5_addMoved.cls = true from pn_X5]; rfl
def mX5_addMoved : am_M := (yX5_addMoved, cX5_addMoved, 4, none, 0, 0)
theorem fl_X5_78 : am_fl RX5 78 5 28 := ⟨RX5, TX5, 32, tyX5, cl_X5, Nat.le_of_ble_eq_true rfl, rfl, Or.inl wd_623⟩
theorem fl_X5_72 : am_fl RX5 72 5 26 := ⟨RX5, TX5, 32, tyX5, cl_X5, Nat.le_of_ble_eq_true rfl, rfl, Or.inl wd_621⟩
theorem wd_625 : Cond.fieldLink RX5 178 RX5 "movedMany" "I" ∈ am_T := am_T_in 625 (by decide +kernel) (by decide +kernel)
theorem fl_X5_178 : am_fl RX5 178 5 30 := ⟨RX5, TX5, 32, tyX5, cl_X5, Nat.le_of_ble_eq_true rfl, rfl, Or.inl wd_625⟩
theorem fl_X5_63 : am_fl RX5 63 5 23 := ⟨RX5, TX5, 32, tyX5, cl_X5, Nat.le_of_ble_eq_true rfl, rfl, Or.inl wd_618⟩
theorem fp_X5_178 : am_fp RX5 178 5 30 .int false := ⟨RX5, TX5, 32, tyX5, cl_X5, Nat.le_of_ble_eq_true rfl, rfl, rfl, rfl, Or.inl ⟨wd_625, fun _ => rfl⟩⟩
theorem pf_X5_finishOne : plainFor yX5_finishOne = true := by unfold plainFor; rw [show plainName yX5_finishOne.cls = true from pn_X5]; rfl
def mX5_finishOne : am_M := (yX5_finishOne, cX5_finishOne, 6, none, 2, 59)
theorem fl_X5_51 : am_fl RX5 51 5 19 := ⟨RX5, TX5, 32, tyX5, cl_X5, Nat.le_of_ble_eq_true rfl, rfl, Or.inl wd_614⟩
theorem fl_X5_54 : am_fl RX5 54 5 20 := ⟨RX5, TX5, 32, tyX5, cl_X5, Nat.le_of_ble_eq_true rfl, rfl, Or.inl wd_615⟩
theorem fl_X5_66 : am_fl RX5 66 5 24 := ⟨RX5, TX5, 32, tyX5, cl_X5, Nat.le_of_ble_eq_true rfl, rfl, Or.inl wd_619⟩
theorem wd_626 : Cond.fieldLink RX5 181 RX5 "doneMany" "I" ∈ am_T := am_T_in 626 (by decide +kernel) (by decide +kernel)
theorem fl_X5_181 : am_fl RX5 181 5 31 := ⟨RX5, TX5, 32, tyX5, cl_X5, Nat.le_of_ble_eq_true rfl, rfl, Or.inl wd_626⟩
theorem fp_X5_181 : am_fp RX5 181 5 31 .int false := ⟨RX5, TX5, 32, tyX5, cl_X5, Nat.le_of_ble_eq_true rfl, rfl, rfl, rfl, Or.inl ⟨wd_626, fun _ => rfl⟩⟩
theorem bc_50 : (Int8.ofInt 50).toInt32 = 50 := by decide +kernel
theorem ic_10 : Int32.ofInt 10 = 10 := by decide +kernel
theorem pd_X5_behind : (parseMethodDescriptor yX5_behind.desc).map (fun d => d.parameters.length) = some 2 := by decide +kernel
theorem wd_885 : Cond.code yX5_behind cX5_behind 14 (some .int) ∈ am_T := am_T_in 885 (by decide +kernel) (by decide +kernel)
theorem cb_X5_finishOne_X5_behind (i : Nat) : am_cb mX5_finishOne i mX5_behind 2 := ⟨wd_885, wd_58, ⟨pl_X5.1, pl_X5.2, pd_X5_behind⟩, Nat.le_of_ble_eq_true rfl, Nat.le_of_ble_eq_true rfl⟩
theorem wd_882 : Cond.methodLink RX5 184 yX5_behind ∈ am_T := am_T_in 882 (by decide +kernel) (by decide +kernel)
theorem wd_884 : Cond.instanceMethod yX5_behind ∈ am_T := am_T_in 884 (by decide +kernel) (by decide +kernel)
theorem wd_47 : Cond.selects RX5 yX5_behind yX5_behind ∈ am_T := am_T_in 47 (by decide +kernel) (by decide +kernel)
theorem q_X5_finishOne_184 : am_qV mX5_finishOne 184 mX5_behind 2 := ⟨cb_X5_finishOne_X5_behind 184, wd_882, wd_884, wd_47⟩
theorem pd_X5_addMoved : (parseMethodDescriptor yX5_addMoved.desc).map (fun d => d.parameters.length) = some 3 := by decide +kernel
theorem wd_901 : Cond.code yX5_addMoved cX5_addMoved 4 none ∈ am_T := am_T_in 901 (by decide +kernel) (by decide +kernel)
theorem cb_X5_finishOne_X5_addMoved (i : Nat) : am_cb mX5_finishOne i mX5_addMoved 3 := ⟨wd_901, wd_58, ⟨pl_X5.1, pl_X5.2, pd_X5_addMoved⟩, Nat.le_of_ble_eq_true rfl, Nat.le_of_ble_eq_true rfl⟩
theorem wd_898 : Cond.methodLink RX5 187 yX5_addMoved ∈ am_T := am_T_in 898 (by decide +kernel) (by decide +kernel)
theorem wd_900 : Cond.instanceMethod yX5_addMoved ∈ am_T := am_T_in 900 (by decide +kernel) (by decide +kernel)
theorem wd_51 : Cond.selects RX5 yX5_addMoved yX5_addMoved ∈ am_T := am_T_in 51 (by decide +kernel) (by decide +kernel)
theorem q_X5_finishOne_187 : am_qV mX5_finishOne 187 mX5_addMoved 3 := ⟨cb_X5_finishOne_X5_addMoved 187, wd_898, wd_900, wd_51⟩
theorem pf_X5_finishLevel : plainFor yX5_finishLevel = true := by unfold plainFor; rw [show plainName yX5_finishLevel.cls = true from pn_X5]; rfl
def mX5_finishLevel : am_M := (yX5_finishLevel, cX5_finishLevel, 7, none, 3, 84)
theorem pd_X5_finishOne : (parseMethodDescriptor yX5_finishOne.desc).map (fun d => d.parameters.length) = some 3 := by decide +kernel
theorem wd_881 : Cond.code yX5_finishOne cX5_finishOne 6 none ∈ am_T := am_T_in 881 (by decide +kernel) (by decide +kernel)
theorem cb_X5_finishLevel_X5_finishOne (i : Nat) : am_cb mX5_finishLevel i mX5_finishOne 3 := ⟨wd_881, wd_58, ⟨pl_X5.1, pl_X5.2, pd_X5_finishOne⟩, Nat.le_of_ble_eq_true rfl, Nat.le_of_ble_eq_true rfl⟩
theorem wd_878 : Cond.methodLink RX5 190 yX5_finishOne ∈ am_T := am_T_in 878 (by decide +kernel) (by decide +kernel)
theorem wd_880 : Cond.instanceMethod yX5_finishOne ∈ am_T := am_T_in 880 (by decide +kernel) (by decide +kernel)
theorem wd_46 : Cond.selects RX5 yX5_finishOne yX5_finishOne ∈ am_T := am_T_in 46 (by decide +kernel) (by decide +kernel)
theorem q_X5_finishLevel_190 : am_qV mX5_finishLevel 190 mX5_finishOne 3 := ⟨cb_X5_finishLevel_X5_finishOne 190, wd_878, wd_880, wd_46⟩
theorem pf_X5_isGoal : plainFor yX5_isGoal = true := by unfold plainFor; rw [show plainName yX5_isGoal.cls = true from pn_X5]; rfl
def mX5_isGoal : am_M := (yX5_isGoal, cX5_isGoal, 4, some .boolean, 0, 0)
theorem pf_X5_layGoals : plainFor yX5_layGoals = true := by unfold plainFor; rw [show plainName yX5_layGoals.cls = true from pn_X5]; rfl
def mX5_layGoals : am_M := (yX5_layGoals, cX5_layGoals, 8, none, 2, 47)
theorem cb_X5_layGoals_X5_layOut (i : Nat) : am_cb mX5_layGoals i mX5_layOut 1 := ⟨wd_857, wd_58, ⟨pl_X5.1, pl_X5.2, pd_X5_layOut⟩, Nat.le_of_ble_eq_true rfl, Nat.le_of_ble_eq_true rfl⟩
theorem q_X5_layGoals_162 : am_qV mX5_layGoals 162 mX5_layOut 1 := ⟨cb_X5_layGoals_X5_layOut 162, wd_854, wd_856, wd_40⟩
theorem pd_X5_canBe : (parseMethodDescriptor yX5_canBe.desc).map (fun d => d.parameters.length) = some 0 := by decide +kernel
theorem wd_861 : Cond.code yX5_canBe cX5_canBe 3 (some .boolean) ∈ am_T := am_T_in 861 (by decide +kernel) (by decide +kernel)
theorem cb_X5_layGoals_X5_canBe (i : Nat) : am_cb mX5_layGoals i mX5_canBe 0 := ⟨wd_861, wd_58, ⟨pl_X5.1, pl_X5.2, pd_X5_canBe⟩, Nat.le_of_ble_eq_true rfl, Nat.le_of_ble_eq_true rfl⟩
theorem wd_858 : Cond.methodLink RX5 193 yX5_canBe ∈ am_T := am_T_in 858 (by decide +kernel) (by decide +kernel)
theorem wd_860 : Cond.instanceMethod yX5_canBe ∈ am_T := am_T_in 860 (by decide +kernel) (by decide +kernel)
theorem wd_41 : Cond.selects RX5 yX5_canBe yX5_canBe ∈ am_T := am_T_in 41 (by decide +kernel) (by decide +kernel)
theorem q_X5_layGoals_193 : am_qV mX5_layGoals 193 mX5_canBe 0 := ⟨cb_X5_layGoals_X5_canBe 193, wd_858, wd_860, wd_41⟩
theorem pd_X5_addTurned : (parseMethodDescriptor yX5_addTurned.desc).map (fun d => d.parameters.length) = some 3 := by decide +kernel
theorem wd_873 : Cond.code yX5_addTurned cX5_addTurned 4 none ∈ am_T := am_T_in 873 (by decide +kernel) (by decide +kernel)
theorem cb_X5_layGoals_X5_addTurned (i : Nat) : am_cb mX5_layGoals i mX5_addTurned 3 := ⟨wd_873, wd_58, ⟨pl_X5.1, pl_X5.2, pd_X5_addTurned⟩, Nat.le_of_ble_eq_true rfl, Nat.le_of_ble_eq_true rfl⟩
theorem wd_870 : Cond.methodLink RX5 201 yX5_addTurned ∈ am_T := am_T_in 870 (by decide +kernel) (by decide +kernel)
theorem wd_872 : Cond.instanceMethod yX5_addTurned ∈ am_T := am_T_in 872 (by decide +kernel) (by decide +kernel)
theorem wd_44 : Cond.selects RX5 yX5_addTurned yX5_addTurned ∈ am_T := am_T_in 44 (by decide +kernel) (by decide +kernel)
theorem q_X5_layGoals_201 : am_qV mX5_layGoals 201 mX5_addTurned 3 := ⟨cb_X5_layGoals_X5_addTurned 201, wd_870, wd_872, wd_44⟩
theorem pd_X5_isGoal : (parseMethodDescriptor yX5_isGoal.desc).map (fun d => d.parameters.length) = some 2 := by decide +kernel
theorem wd_869 : Cond.code yX5_isGoal cX5_isGoal 4 (some .boolean) ∈ am_T := am_T_in 869 (by decide +kernel) (by decide +kernel)
theorem cb_X5_layGoals_X5_isGoal (i : Nat) : am_cb mX5_layGoals i mX5_isGoal 2 := ⟨wd_869, wd_58, ⟨pl_X5.1, pl_X5.2, pd_X5_isGoal⟩, Nat.le_of_ble_eq_true rfl, Nat.le_of_ble_eq_true rfl⟩
theorem wd_866 : Cond.methodLink RX5 197 yX5_isGoal ∈ am_T := am_T_in 866 (by decide +kernel) (by decide +kernel)
theorem wd_868 : Cond.instanceMethod yX5_isGoal ∈ am_T := am_T_in 868 (by decide +kernel) (by decide +kernel)
theorem wd_43 : Cond.selects RX5 yX5_isGoal yX5_isGoal ∈ am_T := am_T_in 43 (by decide +kernel) (by decide +kernel)
theorem q_X5_layGoals_197 : am_qV mX5_layGoals 197 mX5_isGoal 2 := ⟨cb_X5_layGoals_X5_isGoal 197, wd_866, wd_868, wd_43⟩
theorem pf_X5_layAll : plainFor yX5_layAll = true := by unfold plainFor; rw [show plainName yX5_layAll.cls = true from pn_X5]; rfl
def mX5_layAll : am_M := (yX5_layAll, cX5_layAll, 5, none, 4, 110)
theorem pd_X5_layOrders : (parseMethodDescriptor yX5_layOrders.desc).map (fun d => d.parameters.length) = some 1 := by decide +kernel
theorem wd_845 : Cond.code yX5_layOrders cX5_layOrders 7 none ∈ am_T := am_T_in 845 (by decide +kernel) (by decide +kernel)
theorem cb_X5_layAll_X5_layOrders (i : Nat) : am_cb mX5_layAll i mX5_layOrders 1 := ⟨wd_845, wd_58, ⟨pl_X5.1, pl_X5.2, pd_X5_layOrders⟩, Nat.le_of_ble_eq_true rfl, Nat.le_of_ble_eq_true rfl⟩
theorem wd_842 : Cond.methodLink RX5 204 yX5_layOrders ∈ am_T := am_T_in 842 (by decide +kernel) (by decide +kernel)
theorem wd_844 : Cond.instanceMethod yX5_layOrders ∈ am_T := am_T_in 844 (by decide +kernel) (by decide +kernel)
theorem wd_37 : Cond.selects RX5 yX5_layOrders yX5_layOrders ∈ am_T := am_T_in 37 (by decide +kernel) (by decide +kernel)
theorem q_X5_layAll_204 : am_qV mX5_layAll 204 mX5_layOrders 1 := ⟨cb_X5_layAll_X5_layOrders 204, wd_842, wd_844, wd_37⟩
theorem pd_X5_layWays : (parseMethodDescriptor yX5_layWays.desc).map (fun d => d.parameters.length) = some 1 := by decide +kernel
theorem wd_849 : Cond.code yX5_layWays cX5_layWays 6 none ∈ am_T := am_T_in 849 (by decide +kernel) (by decide +kernel)
theorem cb_X5_layAll_X5_layWays (i : Nat) : am_cb mX5_layAll i mX5_layWays 1 := ⟨wd_849, wd_58, ⟨pl_X5.1, pl_X5.2, pd_X5_layWays⟩, Nat.le_of_ble_eq_true rfl, Nat.le_of_ble_eq_true rfl⟩
theorem wd_846 : Cond.methodLink RX5 207 yX5_layWays ∈ am_T := am_T_in 846 (by decide +kernel) (by decide +kernel)
theorem wd_848 : Cond.instanceMethod yX5_layWays ∈ am_T := am_T_in 848 (by decide +kernel) (by decide +kernel)
theorem wd_38 : Cond.selects RX5 yX5_layWays yX5_layWays ∈ am_T := am_T_in 38 (by decide +kernel) (by decide +kernel)
theorem q_X5_layAll_207 : am_qV mX5_layAll 207 mX5_layWays 1 := ⟨cb_X5_layAll_X5_layWays 207, wd_846, wd_848, wd_38⟩
theorem pd_X5_layGoals : (parseMethodDescriptor yX5_layGoals.desc).map (fun d => d.parameters.length) = some 2 := by decide +kernel
theorem wd_853 : Cond.code yX5_layGoals cX5_layGoals 8 none ∈ am_T := am_T_in 853 (by decide +kernel) (by decide +kernel)
theorem cb_X5_layAll_X5_layGoals (i : Nat) : am_cb mX5_layAll i mX5_layGoals 2 := ⟨wd_853, wd_58, ⟨pl_X5.1, pl_X5.2, pd_X5_layGoals⟩, Nat.le_of_ble_eq_true rfl, Nat.le_of_ble_eq_true rfl⟩
theorem wd_850 : Cond.methodLink RX5 210 yX5_layGoals ∈ am_T := am_T_in 850 (by decide +kernel) (by decide +kernel)
theorem wd_852 : Cond.instanceMethod yX5_layGoals ∈ am_T := am_T_in 852 (by decide +kernel) (by decide +kernel)
theorem wd_39 : Cond.selects RX5 yX5_layGoals yX5_layGoals ∈ am_T := am_T_in 39 (by decide +kernel) (by decide +kernel)
theorem q_X5_layAll_210 : am_qV mX5_layAll 210 mX5_layGoals 2 := ⟨cb_X5_layAll_X5_layGoals 210, wd_850, wd_852, wd_39⟩
theorem pd_X5_finishLevel : (parseMethodDescriptor yX5_finishLevel.desc).map (fun d => d.parameters.length) = some 1 := by decide +kernel
theorem wd_877 : Cond.code yX5_finishLevel cX5_finishLevel 7 none ∈ am_T := am_T_in 877 (by decide +kernel) (by decide +kernel)
theorem cb_X5_layAll_X5_finishLevel (i : Nat) : am_cb mX5_layAll i mX5_finishLevel 1 := ⟨wd_877, wd_58, ⟨pl_X5.1, pl_X5.2, pd_X5_finishLevel⟩, Nat.le_of_ble_eq_true rfl, Nat.le_of_ble_eq_true rfl⟩
theorem wd_874 : Cond.methodLink RX5 213 yX5_finishLevel ∈ am_T := am_T_in 874 (by decide +kernel) (by decide +kernel)
theorem wd_876 : Cond.instanceMethod yX5_finishLevel ∈ am_T := am_T_in 876 (by decide +kernel) (by decide +kernel)
theorem wd_45 : Cond.selects RX5 yX5_finishLevel yX5_finishLevel ∈ am_T := am_T_in 45 (by decide +kernel) (by decide +kernel)
theorem q_X5_layAll_213 : am_qV mX5_layAll 213 mX5_finishLevel 1 := ⟨cb_X5_layAll_X5_finishLevel 213, wd_874, wd_876, wd_45⟩
theorem cb_X5_layAll_X5_behind (i : Nat) : am_cb mX5_layAll i mX5_behind 2 := ⟨wd_885, wd_58, ⟨pl_X5.1, pl_X5.2, pd_X5_behind⟩, Nat.le_of_ble_eq_true rfl, Nat.le_of_ble_eq_true rfl⟩
theorem q_X5_layAll_184 : am_qV mX5_layAll 184 mX5_behind 2 := ⟨cb_X5_layAll_X5_behind 184, wd_882, wd_884, wd_47⟩
theorem cb_X5_layAll_X5_addTurned (i : Nat) : am_cb mX5_layAll i mX5_addTurned 3 := ⟨wd_873, wd_58, ⟨pl_X5.1, pl_X5.2, pd_X5_addTurned⟩, Nat.le_of_ble_eq_true rfl, Nat.le_of_ble_eq_true rfl⟩
theorem q_X5_layAll_201 : am_qV mX5_layAll 201 mX5_addTurned 3 := ⟨cb_X5_layAll_X5_addTurned 201, wd_870, wd_872, wd_44⟩
theorem pf_X5_situationNow : plainFor yX5_situationNow = true := by unfold plainFor; rw [show plainName yX5_situationNow.cls = true from pn_X5]; rfl
def mX5_situationNow : am_M := (yX5_situationNow, cX5_situationNow, 4, some .int, 1, 26)
theorem cb_X5_situationNow_X5_numberOf (i : Nat) : am_cb mX5_situationNow i mX5_numberOf 0 := ⟨wd_897, wd_58, ⟨pl_X5.1, pl_X5.2, pd_X5_numberOf⟩, Nat.le_of_ble_eq_true rfl, Nat.le_of_ble_eq_true rfl⟩
theorem q_X5_situationNow_171 : am_qV mX5_situationNow 171 mX5_numberOf 0 := ⟨cb_X5_situationNow_X5_numberOf 171, wd_894, wd_896, wd_50⟩
theorem cb_X5_situationNow_X5_cell (i : Nat) : am_cb mX5_situationNow i mX5_cell 2 := ⟨wd_710, wd_58, ⟨pl_X5.1, pl_X5.2, pd_X5_cell⟩, Nat.le_of_ble_eq_true rfl, Nat.le_of_ble_eq_true rfl⟩
theorem q_X5_situationNow_88 : am_qV mX5_situationNow 88 mX5_cell 2 := ⟨cb_X5_situationNow_X5_cell 88, wd_707, wd_709, wd_21⟩
theorem pf_X5_wrongPlan : plainFor yX5_wrongPlan = true := by unfold plainFor; rw [show plainName yX5_wrongPlan.cls = true from pn_X5]; rfl
def mX5_wrongPlan : am_M := (yX5_wrongPlan, cX5_wrongPlan, 5, some .int, 5, 134)
theorem cb_X5_wrongPlan_X5_isLocomotive (i : Nat) : am_cb mX5_wrongPlan i mX5_isLocomotive 1 := ⟨wd_750, wd_58, ⟨pl_X5.1, pl_X5.2, pd_X5_isLocomotive⟩, Nat.le_of_ble_eq_true rfl, Nat.le_of_ble_eq_true rfl⟩
theorem q_X5_wrongPlan_116 : am_qV mX5_wrongPlan 116 mX5_isLocomotive 1 := ⟨cb_X5_wrongPlan_X5_isLocomotive 116, wd_747, wd_749, wd_27⟩
theorem cb_X5_wrongPlan_X5_isPosition (i : Nat) : am_cb mX5_wrongPlan i mX5_isPosition 1 := ⟨wd_699, wd_58, ⟨pl_X5.1, pl_X5.2, pd_X5_isPosition⟩, Nat.le_of_ble_eq_true rfl, Nat.le_of_ble_eq_true rfl⟩
theorem q_X5_wrongPlan_92 : am_qS mX5_wrongPlan 92 mX5_isPosition 1 ∨ am_qN mX5_wrongPlan 92 mX5_isPosition 1 := Or.inl ⟨cb_X5_wrongPlan_X5_isPosition 92, wd_697, wd_698⟩
theorem cb_X5_wrongPlan_X5_isTrack (i : Nat) : am_cb mX5_wrongPlan i mX5_isTrack 1 := ⟨wd_726, wd_58, ⟨pl_X5.1, pl_X5.2, pd_X5_isTrack⟩, Nat.le_of_ble_eq_true rfl, Nat.le_of_ble_eq_true rfl⟩
theorem q_X5_wrongPlan_103 : am_qV mX5_wrongPlan 103 mX5_isTrack 1 := ⟨cb_X5_wrongPlan_X5_isTrack 103, wd_723, wd_725, wd_23⟩
theorem pd_X5_layRows : (parseMethodDescriptor yX5_layRows.desc).map (fun d => d.parameters.length) = some 0 := by decide +kernel
theorem wd_837 : Cond.code yX5_layRows cX5_layRows 2 none ∈ am_T := am_T_in 837 (by decide +kernel) (by decide +kernel)
theorem cb_X5_wrongPlan_X5_layRows (i : Nat) : am_cb mX5_wrongPlan i mX5_layRows 0 := ⟨wd_837, wd_58, ⟨pl_X5.1, pl_X5.2, pd_X5_layRows⟩, Nat.le_of_ble_eq_true rfl, Nat.le_of_ble_eq_true rfl⟩
theorem wd_834 : Cond.methodLink RX5 216 yX5_layRows ∈ am_T := am_T_in 834 (by decide +kernel) (by decide +kernel)
theorem wd_836 : Cond.instanceMethod yX5_layRows ∈ am_T := am_T_in 836 (by decide +kernel) (by decide +kernel)
theorem wd_35 : Cond.selects RX5 yX5_layRows yX5_layRows ∈ am_T := am_T_in 35 (by decide +kernel) (by decide +kernel)
theorem q_X5_wrongPlan_216 : am_qV mX5_wrongPlan 216 mX5_layRows 0 := ⟨cb_X5_wrongPlan_X5_layRows 216, wd_834, wd_836, wd_35⟩
theorem fl_X5_23 : am_fl RX5 23 5 6 := ⟨RX5, TX5, 32, tyX5, cl_X5, Nat.le_of_ble_eq_true rfl, rfl, Or.inl wd_601⟩
theorem pd_X5_layAll : (parseMethodDescriptor yX5_layAll.desc).map (fun d => d.parameters.length) = some 2 := by decide +kernel
theorem wd_841 : Cond.code yX5_layAll cX5_layAll 5 none ∈ am_T := am_T_in 841 (by decide +kernel) (by decide +kernel)
theorem cb_X5_wrongPlan_X5_layAll (i : Nat) : am_cb mX5_wrongPlan i mX5_layAll 2 := ⟨wd_841, wd_58, ⟨pl_X5.1, pl_X5.2, pd_X5_layAll⟩, Nat.le_of_ble_eq_true rfl, Nat.le_of_ble_eq_true rfl⟩
theorem wd_838 : Cond.methodLink RX5 219 yX5_layAll ∈ am_T := am_T_in 838 (by decide +kernel) (by decide +kernel)
theorem wd_840 : Cond.instanceMethod yX5_layAll ∈ am_T := am_T_in 840 (by decide +kernel) (by decide +kernel)
theorem wd_36 : Cond.selects RX5 yX5_layAll yX5_layAll ∈ am_T := am_T_in 36 (by decide +kernel) (by decide +kernel)
theorem q_X5_wrongPlan_219 : am_qV mX5_wrongPlan 219 mX5_layAll 2 := ⟨cb_X5_wrongPlan_X5_layAll 219, wd_838, wd_840, wd_36⟩
theorem pf_X5_fewestTurns : plainFor yX5_fewestTurns = true := by unfold plainFor; rw [show plainName yX5_fewestTurns.cls = true from pn_X5]; rfl
def mX5_fewestTurns : am_M := (yX5_fewestTurns, cX5_fewestTurns, 5, some .int, 6, 158)
theorem pd_X5_wrongPlan : (parseMethodDescriptor yX5_wrongPlan.desc).map (fun d => d.parameters.length) = some 2 := by decide +kernel
theorem wd_833 : Cond.code yX5_wrongPlan cX5_wrongPlan 5 (some .int) ∈ am_T := am_T_in 833 (by decide +kernel) (by decide +kernel)
theorem cb_X5_fewestTurns_X5_wrongPlan (i : Nat) : am_cb mX5_fewestTurns i mX5_wrongPlan 2 := ⟨wd_833, wd_58, ⟨pl_X5.1, pl_X5.2, pd_X5_wrongPlan⟩, Nat.le_of_ble_eq_true rfl, Nat.le_of_ble_eq_true rfl⟩
theorem wd_830 : Cond.methodLink RX5 222 yX5_wrongPlan ∈ am_T := am_T_in 830 (by decide +kernel) (by decide +kernel)
theorem wd_832 : Cond.instanceMethod yX5_wrongPlan ∈ am_T := am_T_in 832 (by decide +kernel) (by decide +kernel)
theorem wd_34 : Cond.selects RX5 yX5_wrongPlan yX5_wrongPlan ∈ am_T := am_T_in 34 (by decide +kernel) (by decide +kernel)
theorem q_X5_fewestTurns_222 : am_qV mX5_fewestTurns 222 mX5_wrongPlan 2 := ⟨cb_X5_fewestTurns_X5_wrongPlan 222, wd_830, wd_832, wd_34⟩
theorem pd_X5_situationNow : (parseMethodDescriptor yX5_situationNow.desc).map (fun d => d.parameters.length) = some 0 := by decide +kernel
theorem wd_905 : Cond.code yX5_situationNow cX5_situationNow 4 (some .int) ∈ am_T := am_T_in 905 (by decide +kernel) (by decide +kernel)
theorem cb_X5_fewestTurns_X5_situationNow (i : Nat) : am_cb mX5_fewestTurns i mX5_situationNow 0 := ⟨wd_905, wd_58, ⟨pl_X5.1, pl_X5.2, pd_X5_situationNow⟩, Nat.le_of_ble_eq_true rfl, Nat.le_of_ble_eq_true rfl⟩
theorem wd_902 : Cond.methodLink RX5 225 yX5_situationNow ∈ am_T := am_T_in 902 (by decide +kernel) (by decide +kernel)
theorem wd_904 : Cond.instanceMethod yX5_situationNow ∈ am_T := am_T_in 904 (by decide +kernel) (by decide +kernel)
theorem wd_52 : Cond.selects RX5 yX5_situationNow yX5_situationNow ∈ am_T := am_T_in 52 (by decide +kernel) (by decide +kernel)
theorem q_X5_fewestTurns_225 : am_qV mX5_fewestTurns 225 mX5_situationNow 0 := ⟨cb_X5_fewestTurns_X5_situationNow 225, wd_902, wd_904, wd_52⟩
theorem pf_X5_bestAction : plainFor yX5_bestAction = true := by unfold plainFor; rw [show plainName yX5_bestAction.cls = true from pn_X5]; rfl
def mX5_bestAction : am_M := (yX5_bestAction, cX5_bestAction, 6, some .int, 2, 59)
theorem bc_45 : (Int8.ofInt 45).toInt32 = 45 := by decide +kernel
theorem cb_X5_bestAction_X5_behind (i : Nat) : am_cb mX5_bestAction i mX5_behind 2 := ⟨wd_885, wd_58, ⟨pl_X5.1, pl_X5.2, pd_X5_behind⟩, Nat.le_of_ble_eq_true rfl, Nat.le_of_ble_eq_true rfl⟩
theorem q_X5_bestAction_184 : am_qV mX5_bestAction 184 mX5_behind 2 := ⟨cb_X5_bestAction_X5_behind 184, wd_882, wd_884, wd_47⟩
theorem cb_X5_bestAction_X5_in (i : Nat) : am_cb mX5_bestAction i mX5_in 3 := ⟨wd_702, wd_58, ⟨pl_X5.1, pl_X5.2, pd_X5_in⟩, Nat.le_of_ble_eq_true rfl, Nat.le_of_ble_eq_true rfl⟩
theorem q_X5_bestAction_84 : am_qS mX5_bestAction 84 mX5_in 3 ∨ am_qN mX5_bestAction 84 mX5_in 3 := Or.inl ⟨cb_X5_bestAction_X5_in 84, wd_700, wd_701⟩
theorem pf_X5_plan : plainFor yX5_plan = true := by unfold plainFor; rw [show plainName yX5_plan.cls = true from pn_X5]; rfl
def mX5_plan : am_M := (yX5_plan, cX5_plan, 8, some .int, 6, 158)
theorem cb_X5_plan_X5_wrongPlan (i : Nat) : am_cb mX5_plan i mX5_wrongPlan 2 := ⟨wd_833, wd_58, ⟨pl_X5.1, pl_X5.2, pd_X5_wrongPlan⟩, Nat.le_of_ble_eq_true rfl, Nat.le_of_ble_eq_true rfl⟩
theorem q_X5_plan_222 : am_qV mX5_plan 222 mX5_wrongPlan 2 := ⟨cb_X5_plan_X5_wrongPlan 222, wd_830, wd_832, wd_34⟩
theorem cb_X5_plan_X5_situationNow (i : Nat) : am_cb mX5_plan i mX5_situationNow 0 := ⟨wd_905, wd_58, ⟨pl_X5.1, pl_X5.2, pd_X5_situationNow⟩, Nat.le_of_ble_eq_true rfl, Nat.le_of_ble_eq_true rfl⟩
theorem q_X5_plan_225 : am_qV mX5_plan 225 mX5_situationNow 0 := ⟨cb_X5_plan_X5_situationNow 225, wd_902, wd_904, wd_52⟩
theorem cb_X5_plan_X5_in (i : Nat) : am_cb mX5_plan i mX5_in 3 := ⟨wd_702, wd_58, ⟨pl_X5.1, pl_X5.2, pd_X5_in⟩, Nat.le_of_ble_eq_true rfl, Nat.le_of_ble_eq_true rfl⟩
theorem q_X5_plan_84 : am_qS mX5_plan 84 mX5_in 3 ∨ am_qN mX5_plan 84 mX5_in 3 := Or.inl ⟨cb_X5_plan_X5_in 84, wd_700, wd_701⟩
theorem pd_X5_bestAction : (parseMethodDescriptor yX5_bestAction.desc).map (fun d => d.parameters.length) = some 1 := by decide +kernel
theorem wd_913 : Cond.code yX5_bestAction cX5_bestAction 6 (some .int) ∈ am_T := am_T_in 913 (by decide +kernel) (by decide +kernel)
theorem cb_X5_plan_X5_bestAction (i : Nat) : am_cb mX5_plan i mX5_bestAction 1 := ⟨wd_913, wd_58, ⟨pl_X5.1, pl_X5.2, pd_X5_bestAction⟩, Nat.le_of_ble_eq_true rfl, Nat.le_of_ble_eq_true rfl⟩
theorem wd_910 : Cond.methodLink RX5 228 yX5_bestAction ∈ am_T := am_T_in 910 (by decide +kernel) (by decide +kernel)
theorem wd_912 : Cond.instanceMethod yX5_bestAction ∈ am_T := am_T_in 912 (by decide +kernel) (by decide +kernel)
theorem wd_53 : Cond.selects RX5 yX5_bestAction yX5_bestAction ∈ am_T := am_T_in 53 (by decide +kernel) (by decide +kernel)
theorem q_X5_plan_228 : am_qV mX5_plan 228 mX5_bestAction 1 := ⟨cb_X5_plan_X5_bestAction 228, wd_910, wd_912, wd_53⟩
theorem cb_X5_plan_X5_behind (i : Nat) : am_cb mX5_plan i mX5_behind 2 := ⟨wd_885, wd_58, ⟨pl_X5.1, pl_X5.2, pd_X5_behind⟩, Nat.le_of_ble_eq_true rfl, Nat.le_of_ble_eq_true rfl⟩
theorem q_X5_plan_184 : am_qV mX5_plan 184 mX5_behind 2 := ⟨cb_X5_plan_X5_behind 184, wd_882, wd_884, wd_47⟩
theorem pf_X5_save : plainFor yX5_save = true := by unfold plainFor; rw [show plainName yX5_save.cls = true from pn_X5]; rfl
def mX5_save : am_M := (yX5_save, cX5_save, 3, some .int, 1, 22)
theorem cb_X5_save_X5_in (i : Nat) : am_cb mX5_save i mX5_in 3 := ⟨wd_702, wd_58, ⟨pl_X5.1, pl_X5.2, pd_X5_in⟩, Nat.le_of_ble_eq_true rfl, Nat.le_of_ble_eq_true rfl⟩
theorem q_X5_save_84 : am_qS mX5_save 84 mX5_in 3 ∨ am_qN mX5_save 84 mX5_in 3 := Or.inl ⟨cb_X5_save_X5_in 84, wd_700, wd_701⟩
theorem fl_X5_16 : am_fl RX5 16 5 2 := ⟨RX5, TX5, 32, tyX5, cl_X5, Nat.le_of_ble_eq_true rfl, rfl, Or.inl wd_597⟩
theorem fl_X5_13 : am_fl RX5 13 5 1 := ⟨RX5, TX5, 32, tyX5, cl_X5, Nat.le_of_ble_eq_true rfl, rfl, Or.inl wd_596⟩
theorem pf_X5_restore : plainFor yX5_restore = true := by unfold plainFor; rw [show plainName yX5_restore.cls = true from pn_X5]; rfl
def mX5_restore : am_M := (yX5_restore, cX5_restore, 3, some .int, 1, 22)
theorem cb_X5_restore_X5_in (i : Nat) : am_cb mX5_restore i mX5_in 3 := ⟨wd_702, wd_58, ⟨pl_X5.1, pl_X5.2, pd_X5_in⟩, Nat.le_of_ble_eq_true rfl, Nat.le_of_ble_eq_true rfl⟩
theorem q_X5_restore_84 : am_qS mX5_restore 84 mX5_in 3 ∨ am_qN mX5_restore 84 mX5_in 3 := Or.inl ⟨cb_X5_restore_X5_in 84, wd_700, wd_701⟩
theorem bc_m10 : (Int8.ofInt (-10)).toInt32 = (-10) := by decide +kernel
theorem cb_X5_restore_X5_change (i : Nat) : am_cb mX5_restore i mX5_change 0 := ⟨wd_714, wd_58, ⟨pl_X5.1, pl_X5.2, pd_X5_change⟩, Nat.le_of_ble_eq_true rfl, Nat.le_of_ble_eq_true rfl⟩
theorem q_X5_restore_100 : am_qV mX5_restore 100 mX5_change 0 := ⟨cb_X5_restore_X5_change 100, wd_711, wd_713, wd_22⟩
theorem pf_X4_houseChanges : plainFor yX4_houseChanges = true := by unfold plainFor; rw [show plainName yX4_houseChanges.cls = true from pn_X4]; rfl
def mX4_houseChanges : am_M := (yX4_houseChanges, cX4_houseChanges, 1, none, 1, 20)
theorem fl_X4_23 : am_fl RX4 23 4 2 := ⟨RX4, TX4, 5, tyX4, cl_X4, Nat.le_of_ble_eq_true rfl, rfl, Or.inl wd_126⟩
theorem pd_X0_forgetAll : (parseMethodDescriptor yX0_forgetAll.desc).map (fun d => d.parameters.length) = some 0 := by decide +kernel
theorem wd_166 : Cond.code yX0_forgetAll cX0_forgetAll 1 none ∈ am_T := am_T_in 166 (by decide +kernel) (by decide +kernel)
theorem cb_X4_houseChanges_X0_forgetAll (i : Nat) : am_cb mX4_houseChanges i mX0_forgetAll 0 := ⟨wd_166, wd_57, ⟨pl_X0.1, pl_X0.2, pd_X0_forgetAll⟩, Nat.le_of_ble_eq_true rfl, Nat.le_of_ble_eq_true rfl⟩
theorem wd_163 : Cond.methodLink RX4 165 yX0_forgetAll ∈ am_T := am_T_in 163 (by decide +kernel) (by decide +kernel)
theorem wd_164 : Cond.instanceMethod yX0_forgetAll ∈ am_T := am_T_in 164 (by decide +kernel) (by decide +kernel)
theorem wd_165 : Cond.selects RX0 yX0_forgetAll yX0_forgetAll ∈ am_T := am_T_in 165 (by decide +kernel) (by decide +kernel)
theorem q_X4_houseChanges_165 : am_qV mX4_houseChanges 165 mX0_forgetAll 0 := ⟨cb_X4_houseChanges_X0_forgetAll 165, wd_163, wd_164, wd_165⟩
theorem wd_127 : Cond.fieldLink RX4 168 RX4 "planner" "LTurntableHouse$Planner;" ∈ am_T := am_T_in 127 (by decide +kernel) (by decide +kernel)
theorem fl_X4_168 : am_fl RX4 168 4 3 := ⟨RX4, TX4, 5, tyX4, cl_X4, Nat.le_of_ble_eq_true rfl, rfl, Or.inl wd_127⟩
theorem pd_X1_forgetGoal : (parseMethodDescriptor yX1_forgetGoal.desc).map (fun d => d.parameters.length) = some 0 := by decide +kernel
theorem wd_170 : Cond.code yX1_forgetGoal cX1_forgetGoal 1 none ∈ am_T := am_T_in 170 (by decide +kernel) (by decide +kernel)
theorem cb_X4_houseChanges_X1_forgetGoal (i : Nat) : am_cb mX4_houseChanges i mX1_forgetGoal 0 := ⟨wd_170, wd_60, ⟨pl_X1.1, pl_X1.2, pd_X1_forgetGoal⟩, Nat.le_of_ble_eq_true rfl, Nat.le_of_ble_eq_true rfl⟩
theorem wd_167 : Cond.methodLink RX4 172 yX1_forgetGoal ∈ am_T := am_T_in 167 (by decide +kernel) (by decide +kernel)
theorem wd_168 : Cond.instanceMethod yX1_forgetGoal ∈ am_T := am_T_in 168 (by decide +kernel) (by decide +kernel)
theorem wd_169 : Cond.selects RX1 yX1_forgetGoal yX1_forgetGoal ∈ am_T := am_T_in 169 (by decide +kernel) (by decide +kernel)
theorem q_X4_houseChanges_172 : am_qV mX4_houseChanges 172 mX1_forgetGoal 0 := ⟨cb_X4_houseChanges_X1_forgetGoal 172, wd_167, wd_168, wd_169⟩
theorem pf_X4_changeLength : plainFor yX4_changeLength = true := by unfold plainFor; rw [show plainName yX4_changeLength.cls = true from pn_X4]; rfl
def mX4_changeLength : am_M := (yX4_changeLength, cX4_changeLength, 4, some .int, 2, 40)
theorem fl_X4_12 : am_fl RX4 12 4 0 := ⟨RX4, TX4, 5, tyX4, cl_X4, Nat.le_of_ble_eq_true rfl, rfl, Or.inl wd_124⟩
theorem cb_X4_changeLength_X3_usedAt (i : Nat) : am_cb mX4_changeLength i mX3_usedAt 1 := ⟨wd_154, wd_56, ⟨pl_X3.1, pl_X3.2, pd_X3_usedAt⟩, Nat.le_of_ble_eq_true rfl, Nat.le_of_ble_eq_true rfl⟩
theorem wd_151 : Cond.methodLink RX4 149 yX3_usedAt ∈ am_T := am_T_in 151 (by decide +kernel) (by decide +kernel)
theorem q_X4_changeLength_149 : am_qV mX4_changeLength 149 mX3_usedAt 1 := ⟨cb_X4_changeLength_X3_usedAt 149, wd_151, wd_152, wd_153⟩
theorem cb_X4_changeLength_X3_lengthAt (i : Nat) : am_cb mX4_changeLength i mX3_lengthAt 1 := ⟨wd_158, wd_56, ⟨pl_X3.1, pl_X3.2, pd_X3_lengthAt⟩, Nat.le_of_ble_eq_true rfl, Nat.le_of_ble_eq_true rfl⟩
theorem wd_155 : Cond.methodLink RX4 35 yX3_lengthAt ∈ am_T := am_T_in 155 (by decide +kernel) (by decide +kernel)
theorem q_X4_changeLength_35 : am_qV mX4_changeLength 35 mX3_lengthAt 1 := ⟨cb_X4_changeLength_X3_lengthAt 35, wd_155, wd_156, wd_157⟩
theorem pd_X4_houseChanges : (parseMethodDescriptor yX4_houseChanges.desc).map (fun d => d.parameters.length) = some 0 := by decide +kernel
theorem wd_162 : Cond.code yX4_houseChanges cX4_houseChanges 1 none ∈ am_T := am_T_in 162 (by decide +kernel) (by decide +kernel)
theorem cb_X4_changeLength_X4_houseChanges (i : Nat) : am_cb mX4_changeLength i mX4_houseChanges 0 := ⟨wd_162, wd_55, ⟨pl_X4.1, pl_X4.2, pd_X4_houseChanges⟩, Nat.le_of_ble_eq_true rfl, Nat.le_of_ble_eq_true rfl⟩
theorem wd_159 : Cond.methodLink RX4 46 yX4_houseChanges ∈ am_T := am_T_in 159 (by decide +kernel) (by decide +kernel)
theorem wd_161 : Cond.instanceMethod yX4_houseChanges ∈ am_T := am_T_in 161 (by decide +kernel) (by decide +kernel)
theorem wd_1 : Cond.selects RX4 yX4_houseChanges yX4_houseChanges ∈ am_T := am_T_in 1 (by decide +kernel) (by decide +kernel)
theorem q_X4_changeLength_46 : am_qV mX4_changeLength 46 mX4_houseChanges 0 := ⟨cb_X4_changeLength_X4_houseChanges 46, wd_159, wd_161, wd_1⟩
theorem pd_X3_setLength : (parseMethodDescriptor yX3_setLength.desc).map (fun d => d.parameters.length) = some 2 := by decide +kernel
theorem wd_174 : Cond.code yX3_setLength cX3_setLength 3 none ∈ am_T := am_T_in 174 (by decide +kernel) (by decide +kernel)
theorem cb_X4_changeLength_X3_setLength (i : Nat) : am_cb mX4_changeLength i mX3_setLength 2 := ⟨wd_174, wd_56, ⟨pl_X3.1, pl_X3.2, pd_X3_setLength⟩, Nat.le_of_ble_eq_true rfl, Nat.le_of_ble_eq_true rfl⟩
theorem wd_171 : Cond.methodLink RX4 152 yX3_setLength ∈ am_T := am_T_in 171 (by decide +kernel) (by decide +kernel)
theorem wd_172 : Cond.instanceMethod yX3_setLength ∈ am_T := am_T_in 172 (by decide +kernel) (by decide +kernel)
theorem wd_173 : Cond.selects RX3 yX3_setLength yX3_setLength ∈ am_T := am_T_in 173 (by decide +kernel) (by decide +kernel)
theorem q_X4_changeLength_152 : am_qV mX4_changeLength 152 mX3_setLength 2 := ⟨cb_X4_changeLength_X3_setLength 152, wd_171, wd_172, wd_173⟩
theorem pf_X4_setTrack : plainFor yX4_setTrack = true := by unfold plainFor; rw [show plainName yX4_setTrack.cls = true from pn_X4]; rfl
def mX4_setTrack : am_M := (yX4_setTrack, cX4_setTrack, 3, some .int, 3, 63)
theorem pd_X4_isPosition : (parseMethodDescriptor yX4_isPosition.desc).map (fun d => d.parameters.length) = some 1 := by decide +kernel
theorem wd_146 : Cond.code yX4_isPosition cX4_isPosition 1 (some .boolean) ∈ am_T := am_T_in 146 (by decide +kernel) (by decide +kernel)
theorem cb_X4_setTrack_X4_isPosition (i : Nat) : am_cb mX4_setTrack i mX4_isPosition 1 := ⟨wd_146, wd_55, ⟨pl_X4.1, pl_X4.2, pd_X4_isPosition⟩, Nat.le_of_ble_eq_true rfl, Nat.le_of_ble_eq_true rfl⟩
theorem wd_144 : Cond.methodLink RX4 27 yX4_isPosition ∈ am_T := am_T_in 144 (by decide +kernel) (by decide +kernel)
theorem wd_145 : Cond.static yX4_isPosition ∈ am_T := am_T_in 145 (by decide +kernel) (by decide +kernel)
theorem q_X4_setTrack_27 : am_qS mX4_setTrack 27 mX4_isPosition 1 ∨ am_qN mX4_setTrack 27 mX4_isPosition 1 := Or.inl ⟨cb_X4_setTrack_X4_isPosition 27, wd_144, wd_145⟩
theorem pd_X4_changeLength : (parseMethodDescriptor yX4_changeLength.desc).map (fun d => d.parameters.length) = some 2 := by decide +kernel
theorem wd_150 : Cond.code yX4_changeLength cX4_changeLength 4 (some .int) ∈ am_T := am_T_in 150 (by decide +kernel) (by decide +kernel)
theorem cb_X4_setTrack_X4_changeLength (i : Nat) : am_cb mX4_setTrack i mX4_changeLength 2 := ⟨wd_150, wd_55, ⟨pl_X4.1, pl_X4.2, pd_X4_changeLength⟩, Nat.le_of_ble_eq_true rfl, Nat.le_of_ble_eq_true rfl⟩
theorem wd_147 : Cond.methodLink RX4 31 yX4_changeLength ∈ am_T := am_T_in 147 (by decide +kernel) (by decide +kernel)
theorem wd_149 : Cond.instanceMethod yX4_changeLength ∈ am_T := am_T_in 149 (by decide +kernel) (by decide +kernel)
theorem wd_0 : Cond.selects RX4 yX4_changeLength yX4_changeLength ∈ am_T := am_T_in 0 (by decide +kernel) (by decide +kernel)
theorem q_X4_setTrack_31 : am_qV mX4_setTrack 31 mX4_changeLength 2 := ⟨cb_X4_setTrack_X4_changeLength 31, wd_147, wd_149, wd_0⟩
theorem pf_X4_setTableLength : plainFor yX4_setTableLength = true := by unfold plainFor; rw [show plainName yX4_setTableLength.cls = true from pn_X4]; rfl
def mX4_setTableLength : am_M := (yX4_setTableLength, cX4_setTableLength, 2, some .int, 3, 63)
theorem cb_X4_setTableLength_X4_changeLength (i : Nat) : am_cb mX4_setTableLength i mX4_changeLength 2 := ⟨wd_150, wd_55, ⟨pl_X4.1, pl_X4.2, pd_X4_changeLength⟩, Nat.le_of_ble_eq_true rfl, Nat.le_of_ble_eq_true rfl⟩
theorem q_X4_setTableLength_31 : am_qV mX4_setTableLength 31 mX4_changeLength 2 := ⟨cb_X4_setTableLength_X4_changeLength 31, wd_147, wd_149, wd_0⟩
theorem pf_X4_addLocomotive : plainFor yX4_addLocomotive = true := by unfold plainFor; rw [show plainName yX4_addLocomotive.cls = true from pn_X4]; rfl
def mX4_addLocomotive : am_M := (yX4_addLocomotive, cX4_addLocomotive, 3, some .int, 3, 70)
theorem cb_X4_addLocomotive_X4_isPosition (i : Nat) : am_cb mX4_addLocomotive i mX4_isPosition 1 := ⟨wd_146, wd_55, ⟨pl_X4.1, pl_X4.2, pd_X4_isPosition⟩, Nat.le_of_ble_eq_true rfl, Nat.le_of_ble_eq_true rfl⟩
theorem q_X4_addLocomotive_27 : am_qS mX4_addLocomotive 27 mX4_isPosition 1 ∨ am_qN mX4_addLocomotive 27 mX4_isPosition 1 := Or.inl ⟨cb_X4_addLocomotive_X4_isPosition 27, wd_144, wd_145⟩
theorem cb_X4_addLocomotive_X3_lengthAt (i : Nat) : am_cb mX4_addLocomotive i mX3_lengthAt 1 := ⟨wd_158, wd_56, ⟨pl_X3.1, pl_X3.2, pd_X3_lengthAt⟩, Nat.le_of_ble_eq_true rfl, Nat.le_of_ble_eq_true rfl⟩
theorem q_X4_addLocomotive_35 : am_qV mX4_addLocomotive 35 mX3_lengthAt 1 := ⟨cb_X4_addLocomotive_X3_lengthAt 35, wd_155, wd_156, wd_157⟩
theorem cb_X4_addLocomotive_X3_freeAt (i : Nat) : am_cb mX4_addLocomotive i mX3_freeAt 1 := ⟨wd_186, wd_56, ⟨pl_X3.1, pl_X3.2, pd_X3_freeAt⟩, Nat.le_of_ble_eq_true rfl, Nat.le_of_ble_eq_true rfl⟩
theorem wd_183 : Cond.methodLink RX4 39 yX3_freeAt ∈ am_T := am_T_in 183 (by decide +kernel) (by decide +kernel)
theorem q_X4_addLocomotive_39 : am_qV mX4_addLocomotive 39 mX3_freeAt 1 := ⟨cb_X4_addLocomotive_X3_freeAt 39, wd_183, wd_184, wd_185⟩
theorem fl_X4_42 : am_fl RX4 42 3 5 := ⟨RX3, TX3, 8, tyX3, cl_X3, Nat.le_of_ble_eq_true rfl, rfl, Or.inr ⟨RX4, List.mem_of_getElem? (i := 1) rfl⟩⟩
theorem cb_X4_addLocomotive_X4_houseChanges (i : Nat) : am_cb mX4_addLocomotive i mX4_houseChanges 0 := ⟨wd_162, wd_55, ⟨pl_X4.1, pl_X4.2, pd_X4_houseChanges⟩, Nat.le_of_ble_eq_true rfl, Nat.le_of_ble_eq_true rfl⟩
theorem q_X4_addLocomotive_46 : am_qV mX4_addLocomotive 46 mX4_houseChanges 0 := ⟨cb_X4_addLocomotive_X4_houseChanges 46, wd_159, wd_161, wd_1⟩
theorem pd_X3_addFirst : (parseMethodDescriptor yX3_addFirst.desc).map (fun d => d.parameters.length) = some 2 := by decide +kernel
theorem wd_192 : Cond.code yX3_addFirst cX3_addFirst 4 (some .int) ∈ am_T := am_T_in 192 (by decide +kernel) (by decide +kernel)
theorem cb_X4_addLocomotive_X3_addFirst (i : Nat) : am_cb mX4_addLocomotive i mX3_addFirst 2 := ⟨wd_192, wd_56, ⟨pl_X3.1, pl_X3.2, pd_X3_addFirst⟩, Nat.le_of_ble_eq_true rfl, Nat.le_of_ble_eq_true rfl⟩
theorem wd_189 : Cond.methodLink RX4 49 yX3_addFirst ∈ am_T := am_T_in 189 (by decide +kernel) (by decide +kernel)
theorem wd_190 : Cond.instanceMethod yX3_addFirst ∈ am_T := am_T_in 190 (by decide +kernel) (by decide +kernel)
theorem wd_191 : Cond.selects RX3 yX3_addFirst yX3_addFirst ∈ am_T := am_T_in 191 (by decide +kernel) (by decide +kernel)
theorem q_X4_addLocomotive_49 : am_qV mX4_addLocomotive 49 mX3_addFirst 2 := ⟨cb_X4_addLocomotive_X3_addFirst 49, wd_189, wd_190, wd_191⟩
theorem pf_X4_removeLocomotive : plainFor yX4_removeLocomotive = true := by unfold plainFor; rw [show plainName yX4_removeLocomotive.cls = true from pn_X4]; rfl
def mX4_removeLocomotive : am_M := (yX4_removeLocomotive, cX4_removeLocomotive, 1, some .int, 4, 90)
theorem cb_X4_removeLocomotive_X4_houseChanges (i : Nat) : am_cb mX4_removeLocomotive i mX4_houseChanges 0 := ⟨wd_162, wd_55, ⟨pl_X4.1, pl_X4.2, pd_X4_houseChanges⟩, Nat.le_of_ble_eq_true rfl, Nat.le_of_ble_eq_true rfl⟩
theorem q_X4_removeLocomotive_46 : am_qV mX4_removeLocomotive 46 mX4_houseChanges 0 := ⟨cb_X4_removeLocomotive_X4_houseChanges 46, wd_159, wd_161, wd_1⟩
theorem pd_X3_removeNewest : (parseMethodDescriptor yX3_removeNewest.desc).map (fun d => d.parameters.length) = some 0 := by decide +kernel
theorem wd_220 : Cond.code yX3_removeNewest cX3_removeNewest 3 (some .int) ∈ am_T := am_T_in 220 (by decide +kernel) (by decide +kernel)
theorem cb_X4_removeLocomotive_X3_removeNewest (i : Nat) : am_cb mX4_removeLocomotive i mX3_removeNewest 0 := ⟨wd_220, wd_56, ⟨pl_X3.1, pl_X3.2, pd_X3_removeNewest⟩, Nat.le_of_ble_eq_true rfl, Nat.le_of_ble_eq_true rfl⟩
theorem wd_217 : Cond.methodLink RX4 52 yX3_removeNewest ∈ am_T := am_T_in 217 (by decide +kernel) (by decide +kernel)
theorem wd_218 : Cond.instanceMethod yX3_removeNewest ∈ am_T := am_T_in 218 (by decide +kernel) (by decide +kernel)
theorem wd_219 : Cond.selects RX3 yX3_removeNewest yX3_removeNewest ∈ am_T := am_T_in 219 (by decide +kernel) (by decide +kernel)
theorem q_X4_removeLocomotive_52 : am_qV mX4_removeLocomotive 52 mX3_removeNewest 0 := ⟨cb_X4_removeLocomotive_X3_removeNewest 52, wd_217, wd_218, wd_219⟩
theorem pf_X4_setDead : plainFor yX4_setDead = true := by unfold plainFor; rw [show plainName yX4_setDead.cls = true from pn_X4]; rfl
def mX4_setDead : am_M := (yX4_setDead, cX4_setDead, 4, some .int, 2, 44)
theorem cb_X4_setDead_X3_isLocomotive (i : Nat) : am_cb mX4_setDead i mX3_isLocomotive 1 := ⟨wd_200, wd_56, ⟨pl_X3.1, pl_X3.2, pd_X3_isLocomotive⟩, Nat.le_of_ble_eq_true rfl, Nat.le_of_ble_eq_true rfl⟩
theorem wd_241 : Cond.methodLink RX4 56 yX3_isLocomotive ∈ am_T := am_T_in 241 (by decide +kernel) (by decide +kernel)
theorem q_X4_setDead_56 : am_qV mX4_setDead 56 mX3_isLocomotive 1 := ⟨cb_X4_setDead_X3_isLocomotive 56, wd_241, wd_198, wd_199⟩
theorem cb_X4_setDead_X3_isAlive (i : Nat) : am_cb mX4_setDead i mX3_isAlive 1 := ⟨wd_245, wd_56, ⟨pl_X3.1, pl_X3.2, pd_X3_isAlive⟩, Nat.le_of_ble_eq_true rfl, Nat.le_of_ble_eq_true rfl⟩
theorem wd_242 : Cond.methodLink RX4 59 yX3_isAlive ∈ am_T := am_T_in 242 (by decide +kernel) (by decide +kernel)
theorem q_X4_setDead_59 : am_qV mX4_setDead 59 mX3_isAlive 1 := ⟨cb_X4_setDead_X3_isAlive 59, wd_242, wd_243, wd_244⟩
theorem cb_X4_setDead_X4_houseChanges (i : Nat) : am_cb mX4_setDead i mX4_houseChanges 0 := ⟨wd_162, wd_55, ⟨pl_X4.1, pl_X4.2, pd_X4_houseChanges⟩, Nat.le_of_ble_eq_true rfl, Nat.le_of_ble_eq_true rfl⟩
theorem q_X4_setDead_46 : am_qV mX4_setDead 46 mX4_houseChanges 0 := ⟨cb_X4_setDead_X4_houseChanges 46, wd_159, wd_161, wd_1⟩
theorem cb_X4_setDead_X3_markDead (i : Nat) : am_cb mX4_setDead i mX3_markDead 2 := ⟨wd_196, wd_56, ⟨pl_X3.1, pl_X3.2, pd_X3_markDead⟩, Nat.le_of_ble_eq_true rfl, Nat.le_of_ble_eq_true rfl⟩
theorem wd_246 : Cond.methodLink RX4 62 yX3_markDead ∈ am_T := am_T_in 246 (by decide +kernel) (by decide +kernel)
theorem q_X4_setDead_62 : am_qV mX4_setDead 62 mX3_markDead 2 := ⟨cb_X4_setDead_X3_markDead 62, wd_246, wd_194, wd_195⟩
theorem pf_X4_locomotives : plainFor yX4_locomotives = true := by unfold plainFor; rw [show plainName yX4_locomotives.cls = true from pn_X4]; rfl
def mX4_locomotives : am_M := (yX4_locomotives, cX4_locomotives, 1, some .int, 0, 0)
theorem pf_X4_trackLength : plainFor yX4_trackLength = true := by unfold plainFor; rw [show plainName yX4_trackLength.cls = true from pn_X4]; rfl
def mX4_trackLength : am_M := (yX4_trackLength, cX4_trackLength, 2, some .int, 1, 21)
theorem cb_X4_trackLength_X4_isPosition (i : Nat) : am_cb mX4_trackLength i mX4_isPosition 1 := ⟨wd_146, wd_55, ⟨pl_X4.1, pl_X4.2, pd_X4_isPosition⟩, Nat.le_of_ble_eq_true rfl, Nat.le_of_ble_eq_true rfl⟩
theorem q_X4_trackLength_27 : am_qS mX4_trackLength 27 mX4_isPosition 1 ∨ am_qN mX4_trackLength 27 mX4_isPosition 1 := Or.inl ⟨cb_X4_trackLength_X4_isPosition 27, wd_144, wd_145⟩
theorem cb_X4_trackLength_X3_lengthAt (i : Nat) : am_cb mX4_trackLength i mX3_lengthAt 1 := ⟨wd_158, wd_56, ⟨pl_X3.1, pl_X3.2, pd_X3_lengthAt⟩, Nat.le_of_ble_eq_true rfl, Nat.le_of_ble_eq_true rfl⟩
theorem q_X4_trackLength_35 : am_qV mX4_trackLength 35 mX3_lengthAt 1 := ⟨cb_X4_trackLength_X3_lengthAt 35, wd_155, wd_156, wd_157⟩
theorem pf_X4_placeError : plainFor yX4_placeError = true := by unfold plainFor; rw [show plainName yX4_placeError.cls = true from pn_X4]; rfl
def mX4_placeError : am_M := (yX4_placeError, cX4_placeError, 2, some .int, 1, 21)
theorem cb_X4_placeError_X4_isPosition (i : Nat) : am_cb mX4_placeError i mX4_isPosition 1 := ⟨wd_146, wd_55, ⟨pl_X4.1, pl_X4.2, pd_X4_isPosition⟩, Nat.le_of_ble_eq_true rfl, Nat.le_of_ble_eq_true rfl⟩
theorem q_X4_placeError_27 : am_qS mX4_placeError 27 mX4_isPosition 1 ∨ am_qN mX4_placeError 27 mX4_isPosition 1 := Or.inl ⟨cb_X4_placeError_X4_isPosition 27, wd_144, wd_145⟩
theorem cb_X4_placeError_X3_lengthAt (i : Nat) : am_cb mX4_placeError i mX3_lengthAt 1 := ⟨wd_158, wd_56, ⟨pl_X3.1, pl_X3.2, pd_X3_lengthAt⟩, Nat.le_of_ble_eq_true rfl, Nat.le_of_ble_eq_true rfl⟩
theorem q_X4_placeError_35 : am_qV mX4_placeError 35 mX3_lengthAt 1 := ⟨cb_X4_placeError_X3_lengthAt 35, wd_155, wd_156, wd_157⟩
theorem pf_X4_freeLength : plainFor yX4_freeLength = true := by unfold plainFor; rw [show plainName yX4_freeLength.cls = true from pn_X4]; rfl
def mX4_freeLength : am_M := (yX4_freeLength, cX4_freeLength, 3, some .int, 2, 42)
theorem pd_X4_placeError : (parseMethodDescriptor yX4_placeError.desc).map (fun d => d.parameters.length) = some 1 := by decide +kernel
theorem wd_262 : Cond.code yX4_placeError cX4_placeError 2 (some .int) ∈ am_T := am_T_in 262 (by decide +kernel) (by decide +kernel)
theorem cb_X4_freeLength_X4_placeError (i : Nat) : am_cb mX4_freeLength i mX4_placeError 1 := ⟨wd_262, wd_55, ⟨pl_X4.1, pl_X4.2, pd_X4_placeError⟩, Nat.le_of_ble_eq_true rfl, Nat.le_of_ble_eq_true rfl⟩
theorem wd_259 : Cond.methodLink RX4 66 yX4_placeError ∈ am_T := am_T_in 259 (by decide +kernel) (by decide +kernel)
theorem wd_261 : Cond.instanceMethod yX4_placeError ∈ am_T := am_T_in 261 (by decide +kernel) (by decide +kernel)
theorem wd_2 : Cond.selects RX4 yX4_placeError yX4_placeError ∈ am_T := am_T_in 2 (by decide +kernel) (by decide +kernel)
theorem q_X4_freeLength_66 : am_qV mX4_freeLength 66 mX4_placeError 1 := ⟨cb_X4_freeLength_X4_placeError 66, wd_259, wd_261, wd_2⟩
theorem cb_X4_freeLength_X3_freeAt (i : Nat) : am_cb mX4_freeLength i mX3_freeAt 1 := ⟨wd_186, wd_56, ⟨pl_X3.1, pl_X3.2, pd_X3_freeAt⟩, Nat.le_of_ble_eq_true rfl, Nat.le_of_ble_eq_true rfl⟩
theorem q_X4_freeLength_39 : am_qV mX4_freeLength 39 mX3_freeAt 1 := ⟨cb_X4_freeLength_X3_freeAt 39, wd_183, wd_184, wd_185⟩
theorem pf_X4_row : plainFor yX4_row = true := by unfold plainFor; rw [show plainName yX4_row.cls = true from pn_X4]; rfl
def mX4_row : am_M := (yX4_row, cX4_row, 4, some .int, 2, 42)
theorem cb_X4_row_X4_placeError (i : Nat) : am_cb mX4_row i mX4_placeError 1 := ⟨wd_262, wd_55, ⟨pl_X4.1, pl_X4.2, pd_X4_placeError⟩, Nat.le_of_ble_eq_true rfl, Nat.le_of_ble_eq_true rfl⟩
theorem q_X4_row_66 : am_qV mX4_row 66 mX4_placeError 1 := ⟨cb_X4_row_X4_placeError 66, wd_259, wd_261, wd_2⟩
theorem cb_X4_row_X3_countAt (i : Nat) : am_cb mX4_row i mX3_countAt 1 := ⟨wd_208, wd_56, ⟨pl_X3.1, pl_X3.2, pd_X3_countAt⟩, Nat.le_of_ble_eq_true rfl, Nat.le_of_ble_eq_true rfl⟩
theorem wd_267 : Cond.methodLink RX4 69 yX3_countAt ∈ am_T := am_T_in 267 (by decide +kernel) (by decide +kernel)
theorem q_X4_row_69 : am_qV mX4_row 69 mX3_countAt 1 := ⟨cb_X4_row_X3_countAt 69, wd_267, wd_206, wd_207⟩
theorem cb_X4_row_X3_locomotiveAt (i : Nat) : am_cb mX4_row i mX3_locomotiveAt 2 := ⟨wd_232, wd_56, ⟨pl_X3.1, pl_X3.2, pd_X3_locomotiveAt⟩, Nat.le_of_ble_eq_true rfl, Nat.le_of_ble_eq_true rfl⟩
theorem wd_268 : Cond.methodLink RX4 72 yX3_locomotiveAt ∈ am_T := am_T_in 268 (by decide +kernel) (by decide +kernel)
theorem q_X4_row_72 : am_qV mX4_row 72 mX3_locomotiveAt 2 := ⟨cb_X4_row_X3_locomotiveAt 72, wd_268, wd_230, wd_231⟩
theorem pf_X4_place : plainFor yX4_place = true := by unfold plainFor; rw [show plainName yX4_place.cls = true from pn_X4]; rfl
def mX4_place : am_M := (yX4_place, cX4_place, 2, some .int, 3, 68)
theorem cb_X4_place_X3_isLocomotive (i : Nat) : am_cb mX4_place i mX3_isLocomotive 1 := ⟨wd_200, wd_56, ⟨pl_X3.1, pl_X3.2, pd_X3_isLocomotive⟩, Nat.le_of_ble_eq_true rfl, Nat.le_of_ble_eq_true rfl⟩
theorem q_X4_place_56 : am_qV mX4_place 56 mX3_isLocomotive 1 := ⟨cb_X4_place_X3_isLocomotive 56, wd_241, wd_198, wd_199⟩
theorem cb_X4_place_X3_placeOf (i : Nat) : am_cb mX4_place i mX3_placeOf 1 := ⟨wd_224, wd_56, ⟨pl_X3.1, pl_X3.2, pd_X3_placeOf⟩, Nat.le_of_ble_eq_true rfl, Nat.le_of_ble_eq_true rfl⟩
theorem wd_273 : Cond.methodLink RX4 75 yX3_placeOf ∈ am_T := am_T_in 273 (by decide +kernel) (by decide +kernel)
theorem q_X4_place_75 : am_qV mX4_place 75 mX3_placeOf 1 := ⟨cb_X4_place_X3_placeOf 75, wd_273, wd_222, wd_223⟩
theorem pf_X4_pointsTo : plainFor yX4_pointsTo = true := by unfold plainFor; rw [show plainName yX4_pointsTo.cls = true from pn_X4]; rfl
def mX4_pointsTo : am_M := (yX4_pointsTo, cX4_pointsTo, 2, some .int, 1, 21)
theorem pd_X4_isEnd : (parseMethodDescriptor yX4_isEnd.desc).map (fun d => d.parameters.length) = some 1 := by decide +kernel
theorem wd_280 : Cond.code yX4_isEnd cX4_isEnd 1 (some .boolean) ∈ am_T := am_T_in 280 (by decide +kernel) (by decide +kernel)
theorem cb_X4_pointsTo_X4_isEnd (i : Nat) : am_cb mX4_pointsTo i mX4_isEnd 1 := ⟨wd_280, wd_55, ⟨pl_X4.1, pl_X4.2, pd_X4_isEnd⟩, Nat.le_of_ble_eq_true rfl, Nat.le_of_ble_eq_true rfl⟩
theorem wd_278 : Cond.methodLink RX4 78 yX4_isEnd ∈ am_T := am_T_in 278 (by decide +kernel) (by decide +kernel)
theorem wd_279 : Cond.static yX4_isEnd ∈ am_T := am_T_in 279 (by decide +kernel) (by decide +kernel)
theorem q_X4_pointsTo_78 : am_qS mX4_pointsTo 78 mX4_isEnd 1 ∨ am_qN mX4_pointsTo 78 mX4_isEnd 1 := Or.inl ⟨cb_X4_pointsTo_X4_isEnd 78, wd_278, wd_279⟩
theorem cb_X4_pointsTo_X3_positionAt (i : Nat) : am_cb mX4_pointsTo i mX3_positionAt 1 := ⟨wd_284, wd_56, ⟨pl_X3.1, pl_X3.2, pd_X3_positionAt⟩, Nat.le_of_ble_eq_true rfl, Nat.le_of_ble_eq_true rfl⟩
theorem wd_281 : Cond.methodLink RX4 81 yX3_positionAt ∈ am_T := am_T_in 281 (by decide +kernel) (by decide +kernel)
theorem q_X4_pointsTo_81 : am_qV mX4_pointsTo 81 mX3_positionAt 1 := ⟨cb_X4_pointsTo_X3_positionAt 81, wd_281, wd_282, wd_283⟩
theorem pf_X4_turn : plainFor yX4_turn = true := by unfold plainFor; rw [show plainName yX4_turn.cls = true from pn_X4]; rfl
def mX4_turn : am_M := (yX4_turn, cX4_turn, 5, some .int, 4, 94)
theorem pd_J9_abs_0f7a4 : (parseMethodDescriptor yJ9_abs_0f7a4.desc).map (fun d => d.parameters.length) = some 1 := by decide +kernel
theorem wd_291 : Cond.code yJ9_abs_0f7a4 cJ9_abs_0f7a4 1 (some .int) ∈ am_T := am_T_in 291 (by decide +kernel) (by decide +kernel)
theorem cb_X4_turn_J9_abs_0f7a4 (i : Nat) : am_cb mX4_turn i mJ9_abs_0f7a4 1 := ⟨wd_291, wd_59, ⟨pl_J9.1, pl_J9.2, pd_J9_abs_0f7a4⟩, Nat.le_of_ble_eq_true rfl, Nat.le_of_ble_eq_true rfl⟩
theorem wd_289 : Cond.methodLink RX4 84 yJ9_abs_0f7a4 ∈ am_T := am_T_in 289 (by decide +kernel) (by decide +kernel)
theorem wd_290 : Cond.static yJ9_abs_0f7a4 ∈ am_T := am_T_in 290 (by decide +kernel) (by decide +kernel)
theorem q_X4_turn_84 : am_qS mX4_turn 84 mJ9_abs_0f7a4 1 ∨ am_qN mX4_turn 84 mJ9_abs_0f7a4 1 := Or.inl ⟨cb_X4_turn_J9_abs_0f7a4 84, wd_289, wd_290⟩
theorem wd_128 : Cond.fieldLink RX4 96 RX4 "turnCount" "I" ∈ am_T := am_T_in 128 (by decide +kernel) (by decide +kernel)
theorem fl_X4_96 : am_fl RX4 96 4 4 := ⟨RX4, TX4, 5, tyX4, cl_X4, Nat.le_of_ble_eq_true rfl, rfl, Or.inl wd_128⟩
theorem fp_X4_96 : am_fp RX4 96 4 4 .int false := ⟨RX4, TX4, 5, tyX4, cl_X4, Nat.le_of_ble_eq_true rfl, rfl, rfl, rfl, Or.inl ⟨wd_128, fun _ => rfl⟩⟩
theorem fl_X4_99 : am_fl RX4 99 3 7 := ⟨RX3, TX3, 8, tyX3, cl_X3, Nat.le_of_ble_eq_true rfl, rfl, Or.inr ⟨RX4, List.mem_of_getElem? (i := 3) rfl⟩⟩
theorem pd_X3_carryOut : (parseMethodDescriptor yX3_carryOut.desc).map (fun d => d.parameters.length) = some 1 := by decide +kernel
theorem wd_295 : Cond.code yX3_carryOut cX3_carryOut 2 none ∈ am_T := am_T_in 295 (by decide +kernel) (by decide +kernel)
theorem cb_X4_turn_X3_carryOut (i : Nat) : am_cb mX4_turn i mX3_carryOut 1 := ⟨wd_295, wd_56, ⟨pl_X3.1, pl_X3.2, pd_X3_carryOut⟩, Nat.le_of_ble_eq_true rfl, Nat.le_of_ble_eq_true rfl⟩
theorem wd_292 : Cond.methodLink RX4 89 yX3_carryOut ∈ am_T := am_T_in 292 (by decide +kernel) (by decide +kernel)
theorem wd_293 : Cond.instanceMethod yX3_carryOut ∈ am_T := am_T_in 293 (by decide +kernel) (by decide +kernel)
theorem wd_294 : Cond.selects RX3 yX3_carryOut yX3_carryOut ∈ am_T := am_T_in 294 (by decide +kernel) (by decide +kernel)
theorem q_X4_turn_89 : am_qV mX4_turn 89 mX3_carryOut 1 := ⟨cb_X4_turn_X3_carryOut 89, wd_292, wd_293, wd_294⟩
theorem pd_X0_append : (parseMethodDescriptor yX0_append.desc).map (fun d => d.parameters.length) = some 1 := by decide +kernel
theorem wd_315 : Cond.code yX0_append cX0_append 3 none ∈ am_T := am_T_in 315 (by decide +kernel) (by decide +kernel)
theorem cb_X4_turn_X0_append (i : Nat) : am_cb mX4_turn i mX0_append 1 := ⟨wd_315, wd_57, ⟨pl_X0.1, pl_X0.2, pd_X0_append⟩, Nat.le_of_ble_eq_true rfl, Nat.le_of_ble_eq_true rfl⟩
theorem wd_312 : Cond.methodLink RX4 93 yX0_append ∈ am_T := am_T_in 312 (by decide +kernel) (by decide +kernel)
theorem wd_313 : Cond.instanceMethod yX0_append ∈ am_T := am_T_in 313 (by decide +kernel) (by decide +kernel)
theorem wd_314 : Cond.selects RX0 yX0_append yX0_append ∈ am_T := am_T_in 314 (by decide +kernel) (by decide +kernel)
theorem q_X4_turn_93 : am_qV mX4_turn 93 mX0_append 1 := ⟨cb_X4_turn_X0_append 93, wd_312, wd_313, wd_314⟩
theorem pf_X4_moveIfPossible : plainFor yX4_moveIfPossible = true := by unfold plainFor; rw [show plainName yX4_moveIfPossible.cls = true from pn_X4]; rfl
def mX4_moveIfPossible : am_M := (yX4_moveIfPossible, cX4_moveIfPossible, 4, some .int, 3, 73)
theorem cb_X4_moveIfPossible_X3_movementError (i : Nat) : am_cb mX4_moveIfPossible i mX3_movementError 2 := ⟨wd_327, wd_56, ⟨pl_X3.1, pl_X3.2, pd_X3_movementError⟩, Nat.le_of_ble_eq_true rfl, Nat.le_of_ble_eq_true rfl⟩
theorem wd_324 : Cond.methodLink RX4 156 yX3_movementError ∈ am_T := am_T_in 324 (by decide +kernel) (by decide +kernel)
theorem q_X4_moveIfPossible_156 : am_qV mX4_moveIfPossible 156 mX3_movementError 2 := ⟨cb_X4_moveIfPossible_X3_movementError 156, wd_324, wd_325, wd_326⟩
theorem cb_X4_moveIfPossible_X3_shift (i : Nat) : am_cb mX4_moveIfPossible i mX3_shift 2 := ⟨wd_299, wd_56, ⟨pl_X3.1, pl_X3.2, pd_X3_shift⟩, Nat.le_of_ble_eq_true rfl, Nat.le_of_ble_eq_true rfl⟩
theorem wd_330 : Cond.methodLink RX4 159 yX3_shift ∈ am_T := am_T_in 330 (by decide +kernel) (by decide +kernel)
theorem q_X4_moveIfPossible_159 : am_qV mX4_moveIfPossible 159 mX3_shift 2 := ⟨cb_X4_moveIfPossible_X3_shift 159, wd_330, wd_297, wd_298⟩
theorem cb_X4_moveIfPossible_X0_append (i : Nat) : am_cb mX4_moveIfPossible i mX0_append 1 := ⟨wd_315, wd_57, ⟨pl_X0.1, pl_X0.2, pd_X0_append⟩, Nat.le_of_ble_eq_true rfl, Nat.le_of_ble_eq_true rfl⟩
theorem q_X4_moveIfPossible_93 : am_qV mX4_moveIfPossible 93 mX0_append 1 := ⟨cb_X4_moveIfPossible_X0_append 93, wd_312, wd_313, wd_314⟩
theorem cb_X4_moveIfPossible_X3_targetOf (i : Nat) : am_cb mX4_moveIfPossible i mX3_targetOf 1 := ⟨wd_311, wd_56, ⟨pl_X3.1, pl_X3.2, pd_X3_targetOf⟩, Nat.le_of_ble_eq_true rfl, Nat.le_of_ble_eq_true rfl⟩
theorem wd_331 : Cond.methodLink RX4 162 yX3_targetOf ∈ am_T := am_T_in 331 (by decide +kernel) (by decide +kernel)
theorem q_X4_moveIfPossible_162 : am_qV mX4_moveIfPossible 162 mX3_targetOf 1 := ⟨cb_X4_moveIfPossible_X3_targetOf 162, wd_331, wd_309, wd_310⟩
theorem cb_X4_moveIfPossible_X3_countAt (i : Nat) : am_cb mX4_moveIfPossible i mX3_countAt 1 := ⟨wd_208, wd_56, ⟨pl_X3.1, pl_X3.2, pd_X3_countAt⟩, Nat.le_of_ble_eq_true rfl, Nat.le_of_ble_eq_true rfl⟩
theorem q_X4_moveIfPossible_69 : am_qV mX4_moveIfPossible 69 mX3_countAt 1 := ⟨cb_X4_moveIfPossible_X3_countAt 69, wd_267, wd_206, wd_207⟩
theorem pf_X4_moveIn : plainFor yX4_moveIn = true := by unfold plainFor; rw [show plainName yX4_moveIn.cls = true from pn_X4]; rfl
def mX4_moveIn : am_M := (yX4_moveIn, cX4_moveIn, 3, some .int, 4, 96)
theorem cb_X4_moveIn_X4_isEnd (i : Nat) : am_cb mX4_moveIn i mX4_isEnd 1 := ⟨wd_280, wd_55, ⟨pl_X4.1, pl_X4.2, pd_X4_isEnd⟩, Nat.le_of_ble_eq_true rfl, Nat.le_of_ble_eq_true rfl⟩
theorem q_X4_moveIn_78 : am_qS mX4_moveIn 78 mX4_isEnd 1 ∨ am_qN mX4_moveIn 78 mX4_isEnd 1 := Or.inl ⟨cb_X4_moveIn_X4_isEnd 78, wd_278, wd_279⟩
theorem pd_X4_moveIfPossible : (parseMethodDescriptor yX4_moveIfPossible.desc).map (fun d => d.parameters.length) = some 2 := by decide +kernel
theorem wd_323 : Cond.code yX4_moveIfPossible cX4_moveIfPossible 4 (some .int) ∈ am_T := am_T_in 323 (by decide +kernel) (by decide +kernel)
theorem cb_X4_moveIn_X4_moveIfPossible (i : Nat) : am_cb mX4_moveIn i mX4_moveIfPossible 2 := ⟨wd_323, wd_55, ⟨pl_X4.1, pl_X4.2, pd_X4_moveIfPossible⟩, Nat.le_of_ble_eq_true rfl, Nat.le_of_ble_eq_true rfl⟩
theorem wd_320 : Cond.methodLink RX4 102 yX4_moveIfPossible ∈ am_T := am_T_in 320 (by decide +kernel) (by decide +kernel)
theorem wd_322 : Cond.instanceMethod yX4_moveIfPossible ∈ am_T := am_T_in 322 (by decide +kernel) (by decide +kernel)
theorem wd_3 : Cond.selects RX4 yX4_moveIfPossible yX4_moveIfPossible ∈ am_T := am_T_in 3 (by decide +kernel) (by decide +kernel)
theorem q_X4_moveIn_102 : am_qV mX4_moveIn 102 mX4_moveIfPossible 2 := ⟨cb_X4_moveIn_X4_moveIfPossible 102, wd_320, wd_322, wd_3⟩
theorem pf_X4_moveOut : plainFor yX4_moveOut = true := by unfold plainFor; rw [show plainName yX4_moveOut.cls = true from pn_X4]; rfl
def mX4_moveOut : am_M := (yX4_moveOut, cX4_moveOut, 3, some .int, 4, 96)
theorem cb_X4_moveOut_X4_isEnd (i : Nat) : am_cb mX4_moveOut i mX4_isEnd 1 := ⟨wd_280, wd_55, ⟨pl_X4.1, pl_X4.2, pd_X4_isEnd⟩, Nat.le_of_ble_eq_true rfl, Nat.le_of_ble_eq_true rfl⟩
theorem q_X4_moveOut_78 : am_qS mX4_moveOut 78 mX4_isEnd 1 ∨ am_qN mX4_moveOut 78 mX4_isEnd 1 := Or.inl ⟨cb_X4_moveOut_X4_isEnd 78, wd_278, wd_279⟩
theorem cb_X4_moveOut_X4_moveIfPossible (i : Nat) : am_cb mX4_moveOut i mX4_moveIfPossible 2 := ⟨wd_323, wd_55, ⟨pl_X4.1, pl_X4.2, pd_X4_moveIfPossible⟩, Nat.le_of_ble_eq_true rfl, Nat.le_of_ble_eq_true rfl⟩
theorem q_X4_moveOut_102 : am_qV mX4_moveOut 102 mX4_moveIfPossible 2 := ⟨cb_X4_moveOut_X4_moveIfPossible 102, wd_320, wd_322, wd_3⟩
theorem pf_X4_turnsMade : plainFor yX4_turnsMade = true := by unfold plainFor; rw [show plainName yX4_turnsMade.cls = true from pn_X4]; rfl
def mX4_turnsMade : am_M := (yX4_turnsMade, cX4_turnsMade, 1, some .int, 0, 0)
theorem pf_X4_undo : plainFor yX4_undo = true := by unfold plainFor; rw [show plainName yX4_undo.cls = true from pn_X4]; rfl
def mX4_undo : am_M := (yX4_undo, cX4_undo, 2, some .int, 4, 94)
theorem pd_X0_removeLatest : (parseMethodDescriptor yX0_removeLatest.desc).map (fun d => d.parameters.length) = some 0 := by decide +kernel
theorem wd_347 : Cond.code yX0_removeLatest cX0_removeLatest 2 (some .int) ∈ am_T := am_T_in 347 (by decide +kernel) (by decide +kernel)
theorem cb_X4_undo_X0_removeLatest (i : Nat) : am_cb mX4_undo i mX0_removeLatest 0 := ⟨wd_347, wd_57, ⟨pl_X0.1, pl_X0.2, pd_X0_removeLatest⟩, Nat.le_of_ble_eq_true rfl, Nat.le_of_ble_eq_true rfl⟩
theorem wd_344 : Cond.methodLink RX4 105 yX0_removeLatest ∈ am_T := am_T_in 344 (by decide +kernel) (by decide +kernel)
theorem wd_345 : Cond.instanceMethod yX0_removeLatest ∈ am_T := am_T_in 345 (by decide +kernel) (by decide +kernel)
theorem wd_346 : Cond.selects RX0 yX0_removeLatest yX0_removeLatest ∈ am_T := am_T_in 346 (by decide +kernel) (by decide +kernel)
theorem q_X4_undo_105 : am_qV mX4_undo 105 mX0_removeLatest 0 := ⟨cb_X4_undo_X0_removeLatest 105, wd_344, wd_345, wd_346⟩
theorem cb_X4_undo_X4_reverseOf (i : Nat) : am_cb mX4_undo i mX4_reverseOf 1 := ⟨wd_354, wd_55, ⟨pl_X4.1, pl_X4.2, pd_X4_reverseOf⟩, Nat.le_of_ble_eq_true rfl, Nat.le_of_ble_eq_true rfl⟩
theorem wd_352 : Cond.methodLink RX4 108 yX4_reverseOf ∈ am_T := am_T_in 352 (by decide +kernel) (by decide +kernel)
theorem q_X4_undo_108 : am_qS mX4_undo 108 mX4_reverseOf 1 ∨ am_qN mX4_undo 108 mX4_reverseOf 1 := Or.inl ⟨cb_X4_undo_X4_reverseOf 108, wd_352, wd_353⟩
theorem cb_X4_undo_X3_carryOut (i : Nat) : am_cb mX4_undo i mX3_carryOut 1 := ⟨wd_295, wd_56, ⟨pl_X3.1, pl_X3.2, pd_X3_carryOut⟩, Nat.le_of_ble_eq_true rfl, Nat.le_of_ble_eq_true rfl⟩
theorem q_X4_undo_89 : am_qV mX4_undo 89 mX3_carryOut 1 := ⟨cb_X4_undo_X3_carryOut 89, wd_292, wd_293, wd_294⟩
theorem pf_X4_log : plainFor yX4_log = true := by unfold plainFor; rw [show plainName yX4_log.cls = true from pn_X4]; rfl
def mX4_log : am_M := (yX4_log, cX4_log, 2, some .int, 1, 21)
theorem fl_X4_111 : am_fl RX4 111 0 1 := ⟨RX0, TX0, 2, tyX0, cl_X0, Nat.le_of_ble_eq_true rfl, rfl, Or.inr ⟨RX4, List.mem_of_getElem? (i := 4) rfl⟩⟩
theorem cb_X4_log_X0_latest (i : Nat) : am_cb mX4_log i mX0_latest 1 := ⟨wd_351, wd_57, ⟨pl_X0.1, pl_X0.2, pd_X0_latest⟩, Nat.le_of_ble_eq_true rfl, Nat.le_of_ble_eq_true rfl⟩
theorem wd_359 : Cond.methodLink RX4 114 yX0_latest ∈ am_T := am_T_in 359 (by decide +kernel) (by decide +kernel)
theorem q_X4_log_114 : am_qV mX4_log 114 mX0_latest 1 := ⟨cb_X4_log_X0_latest 114, wd_359, wd_349, wd_350⟩
theorem pf_X4_planError : plainFor yX4_planError = true := by unfold plainFor; rw [show plainName yX4_planError.cls = true from pn_X4]; rfl
def mX4_planError : am_M := (yX4_planError, cX4_planError, 4, some .int, 1, 22)
theorem cb_X4_planError_X3_isLocomotive (i : Nat) : am_cb mX4_planError i mX3_isLocomotive 1 := ⟨wd_200, wd_56, ⟨pl_X3.1, pl_X3.2, pd_X3_isLocomotive⟩, Nat.le_of_ble_eq_true rfl, Nat.le_of_ble_eq_true rfl⟩
theorem q_X4_planError_56 : am_qV mX4_planError 56 mX3_isLocomotive 1 := ⟨cb_X4_planError_X3_isLocomotive 56, wd_241, wd_198, wd_199⟩
theorem cb_X4_planError_X4_isPosition (i : Nat) : am_cb mX4_planError i mX4_isPosition 1 := ⟨wd_146, wd_55, ⟨pl_X4.1, pl_X4.2, pd_X4_isPosition⟩, Nat.le_of_ble_eq_true rfl, Nat.le_of_ble_eq_true rfl⟩
theorem q_X4_planError_27 : am_qS mX4_planError 27 mX4_isPosition 1 ∨ am_qN mX4_planError 27 mX4_isPosition 1 := Or.inl ⟨cb_X4_planError_X4_isPosition 27, wd_144, wd_145⟩
theorem cb_X4_planError_X3_lengthAt (i : Nat) : am_cb mX4_planError i mX3_lengthAt 1 := ⟨wd_158, wd_56, ⟨pl_X3.1, pl_X3.2, pd_X3_lengthAt⟩, Nat.le_of_ble_eq_true rfl, Nat.le_of_ble_eq_true rfl⟩
theorem q_X4_planError_35 : am_qV mX4_planError 35 mX3_lengthAt 1 := ⟨cb_X4_planError_X3_lengthAt 35, wd_155, wd_156, wd_157⟩
theorem pd_X3_trackCount : (parseMethodDescriptor yX3_trackCount.desc).map (fun d => d.parameters.length) = some 0 := by decide +kernel
theorem wd_371 : Cond.code yX3_trackCount cX3_trackCount 3 (some .int) ∈ am_T := am_T_in 371 (by decide +kernel) (by decide +kernel)
theorem cb_X4_planError_X3_trackCount (i : Nat) : am_cb mX4_planError i mX3_trackCount 0 := ⟨wd_371, wd_56, ⟨pl_X3.1, pl_X3.2, pd_X3_trackCount⟩, Nat.le_of_ble_eq_true rfl, Nat.le_of_ble_eq_true rfl⟩
theorem wd_368 : Cond.methodLink RX4 146 yX3_trackCount ∈ am_T := am_T_in 368 (by decide +kernel) (by decide +kernel)
theorem wd_369 : Cond.instanceMethod yX3_trackCount ∈ am_T := am_T_in 369 (by decide +kernel) (by decide +kernel)
theorem wd_370 : Cond.selects RX3 yX3_trackCount yX3_trackCount ∈ am_T := am_T_in 370 (by decide +kernel) (by decide +kernel)
theorem q_X4_planError_146 : am_qV mX4_planError 146 mX3_trackCount 0 := ⟨cb_X4_planError_X3_trackCount 146, wd_368, wd_369, wd_370⟩
theorem pf_X4_readyPlanner : plainFor yX4_readyPlanner = true := by unfold plainFor; rw [show plainName yX4_readyPlanner.cls = true from pn_X4]; rfl
def mX4_readyPlanner : am_M := (yX4_readyPlanner, cX4_readyPlanner, 1, some (.object "TurntableHouse$Planner"), 3, 60)
theorem wd_376 : Cond.classLink RX4 125 RX1 ∈ am_T := am_T_in 376 (by decide +kernel) (by decide +kernel)
theorem wd_377 : Cond.instantiable RX1 13 ∈ am_T := am_T_in 377 (by decide +kernel) (by decide +kernel)
theorem pd_X1_init : (parseMethodDescriptor yX1_init.desc).map (fun d => d.parameters.length) = some 0 := by decide +kernel
theorem wd_380 : Cond.code yX1_init cX1_init 1 none ∈ am_T := am_T_in 380 (by decide +kernel) (by decide +kernel)
theorem cb_X4_readyPlanner_X1_init (i : Nat) : am_cb mX4_readyPlanner i mX1_init 0 := ⟨wd_380, wd_60, ⟨pl_X1.1, pl_X1.2, pd_X1_init⟩, Nat.le_of_ble_eq_true rfl, Nat.le_of_ble_eq_true rfl⟩
theorem wd_378 : Cond.methodLink RX4 175 yX1_init ∈ am_T := am_T_in 378 (by decide +kernel) (by decide +kernel)
theorem wd_379 : Cond.instanceMethod yX1_init ∈ am_T := am_T_in 379 (by decide +kernel) (by decide +kernel)
theorem q_X4_readyPlanner_175 : am_qI mX4_readyPlanner 175 mX1_init 0 := ⟨cb_X4_readyPlanner_X1_init 175, wd_378, wd_379⟩
theorem fp_X4_168 : am_fp RX4 168 4 3 (.object "TurntableHouse$Planner") false := ⟨RX4, TX4, 5, tyX4, cl_X4, Nat.le_of_ble_eq_true rfl, rfl, rfl, rfl, Or.inl ⟨wd_127, fun _ => rfl⟩⟩
theorem pf_X4_fewestTurns : plainFor yX4_fewestTurns = true := by unfold plainFor; rw [show plainName yX4_fewestTurns.cls = true from pn_X4]; rfl
def mX4_fewestTurns : am_M := (yX4_fewestTurns, cX4_fewestTurns, 6, some .int, 6, 145)
theorem pd_X4_planError : (parseMethodDescriptor yX4_planError.desc).map (fun d => d.parameters.length) = some 2 := by decide +kernel
theorem wd_367 : Cond.code yX4_planError cX4_planError 4 (some .int) ∈ am_T := am_T_in 367 (by decide +kernel) (by decide +kernel)
theorem cb_X4_fewestTurns_X4_planError (i : Nat) : am_cb mX4_fewestTurns i mX4_planError 2 := ⟨wd_367, wd_55, ⟨pl_X4.1, pl_X4.2, pd_X4_planError⟩, Nat.le_of_ble_eq_true rfl, Nat.le_of_ble_eq_true rfl⟩
theorem wd_364 : Cond.methodLink RX4 117 yX4_planError ∈ am_T := am_T_in 364 (by decide +kernel) (by decide +kernel)
theorem wd_366 : Cond.instanceMethod yX4_planError ∈ am_T := am_T_in 366 (by decide +kernel) (by decide +kernel)
theorem wd_4 : Cond.selects RX4 yX4_planError yX4_planError ∈ am_T := am_T_in 4 (by decide +kernel) (by decide +kernel)
theorem q_X4_fewestTurns_117 : am_qV mX4_fewestTurns 117 mX4_planError 2 := ⟨cb_X4_fewestTurns_X4_planError 117, wd_364, wd_366, wd_4⟩
theorem pd_X4_readyPlanner : (parseMethodDescriptor yX4_readyPlanner.desc).map (fun d => d.parameters.length) = some 0 := by decide +kernel
theorem wd_375 : Cond.code yX4_readyPlanner cX4_readyPlanner 1 (some (.object "TurntableHouse$Planner")) ∈ am_T := am_T_in 375 (by decide +kernel) (by decide +kernel)
theorem cb_X4_fewestTurns_X4_readyPlanner (i : Nat) : am_cb mX4_fewestTurns i mX4_readyPlanner 0 := ⟨wd_375, wd_55, ⟨pl_X4.1, pl_X4.2, pd_X4_readyPlanner⟩, Nat.le_of_ble_eq_true rfl, Nat.le_of_ble_eq_true rfl⟩
theorem wd_372 : Cond.methodLink RX4 120 yX4_readyPlanner ∈ am_T := am_T_in 372 (by decide +kernel) (by decide +kernel)
theorem wd_374 : Cond.instanceMethod yX4_readyPlanner ∈ am_T := am_T_in 374 (by decide +kernel) (by decide +kernel)
theorem wd_5 : Cond.selects RX4 yX4_readyPlanner yX4_readyPlanner ∈ am_T := am_T_in 5 (by decide +kernel) (by decide +kernel)
theorem q_X4_fewestTurns_120 : am_qV mX4_fewestTurns 120 mX4_readyPlanner 0 := ⟨cb_X4_fewestTurns_X4_readyPlanner 120, wd_372, wd_374, wd_5⟩
theorem pd_X1_aimAt : (parseMethodDescriptor yX1_aimAt.desc).map (fun d => d.parameters.length) = some 3 := by decide +kernel
theorem wd_443 : Cond.code yX1_aimAt cX1_aimAt 5 none ∈ am_T := am_T_in 443 (by decide +kernel) (by decide +kernel)
theorem cb_X4_fewestTurns_X1_aimAt (i : Nat) : am_cb mX4_fewestTurns i mX1_aimAt 3 := ⟨wd_443, wd_60, ⟨pl_X1.1, pl_X1.2, pd_X1_aimAt⟩, Nat.le_of_ble_eq_true rfl, Nat.le_of_ble_eq_true rfl⟩
theorem wd_440 : Cond.methodLink RX4 124 yX1_aimAt ∈ am_T := am_T_in 440 (by decide +kernel) (by decide +kernel)
theorem wd_441 : Cond.instanceMethod yX1_aimAt ∈ am_T := am_T_in 441 (by decide +kernel) (by decide +kernel)
theorem wd_442 : Cond.selects RX1 yX1_aimAt yX1_aimAt ∈ am_T := am_T_in 442 (by decide +kernel) (by decide +kernel)
theorem q_X4_fewestTurns_124 : am_qV mX4_fewestTurns 124 mX1_aimAt 3 := ⟨cb_X4_fewestTurns_X1_aimAt 124, wd_440, wd_441, wd_442⟩
theorem pd_X1_bestCost : (parseMethodDescriptor yX1_bestCost.desc).map (fun d => d.parameters.length) = some 1 := by decide +kernel
theorem wd_506 : Cond.code yX1_bestCost cX1_bestCost 6 (some .int) ∈ am_T := am_T_in 506 (by decide +kernel) (by decide +kernel)
theorem cb_X4_fewestTurns_X1_bestCost (i : Nat) : am_cb mX4_fewestTurns i mX1_bestCost 1 := ⟨wd_506, wd_60, ⟨pl_X1.1, pl_X1.2, pd_X1_bestCost⟩, Nat.le_of_ble_eq_true rfl, Nat.le_of_ble_eq_true rfl⟩
theorem wd_503 : Cond.methodLink RX4 130 yX1_bestCost ∈ am_T := am_T_in 503 (by decide +kernel) (by decide +kernel)
theorem wd_504 : Cond.instanceMethod yX1_bestCost ∈ am_T := am_T_in 504 (by decide +kernel) (by decide +kernel)
theorem wd_505 : Cond.selects RX1 yX1_bestCost yX1_bestCost ∈ am_T := am_T_in 505 (by decide +kernel) (by decide +kernel)
theorem q_X4_fewestTurns_130 : am_qV mX4_fewestTurns 130 mX1_bestCost 1 := ⟨cb_X4_fewestTurns_X1_bestCost 130, wd_503, wd_504, wd_505⟩
theorem wd_564 : Cond.constant RX4 134 1000000000 ∈ am_T := am_T_in 564 (by decide +kernel) (by decide +kernel)
theorem sc_10000 : (Int16.ofInt 10000).toInt32 = 10000 := by decide +kernel
theorem nz_10000 : ¬ (10000 : Int32) = 0 := by decide +kernel
theorem pf_X4_plan : plainFor yX4_plan = true := by unfold plainFor; rw [show plainName yX4_plan.cls = true from pn_X4]; rfl
def mX4_plan : am_M := (yX4_plan, cX4_plan, 7, some .int, 6, 146)
theorem cb_X4_plan_X4_planError (i : Nat) : am_cb mX4_plan i mX4_planError 2 := ⟨wd_367, wd_55, ⟨pl_X4.1, pl_X4.2, pd_X4_planError⟩, Nat.le_of_ble_eq_true rfl, Nat.le_of_ble_eq_true rfl⟩
theorem q_X4_plan_117 : am_qV mX4_plan 117 mX4_planError 2 := ⟨cb_X4_plan_X4_planError 117, wd_364, wd_366, wd_4⟩
theorem cb_X4_plan_X4_readyPlanner (i : Nat) : am_cb mX4_plan i mX4_readyPlanner 0 := ⟨wd_375, wd_55, ⟨pl_X4.1, pl_X4.2, pd_X4_readyPlanner⟩, Nat.le_of_ble_eq_true rfl, Nat.le_of_ble_eq_true rfl⟩
theorem q_X4_plan_120 : am_qV mX4_plan 120 mX4_readyPlanner 0 := ⟨cb_X4_plan_X4_readyPlanner 120, wd_372, wd_374, wd_5⟩
theorem cb_X4_plan_X1_aimAt (i : Nat) : am_cb mX4_plan i mX1_aimAt 3 := ⟨wd_443, wd_60, ⟨pl_X1.1, pl_X1.2, pd_X1_aimAt⟩, Nat.le_of_ble_eq_true rfl, Nat.le_of_ble_eq_true rfl⟩
theorem q_X4_plan_124 : am_qV mX4_plan 124 mX1_aimAt 3 := ⟨cb_X4_plan_X1_aimAt 124, wd_440, wd_441, wd_442⟩
theorem cb_X4_plan_X1_bestCost (i : Nat) : am_cb mX4_plan i mX1_bestCost 1 := ⟨wd_506, wd_60, ⟨pl_X1.1, pl_X1.2, pd_X1_bestCost⟩, Nat.le_of_ble_eq_true rfl, Nat.le_of_ble_eq_true rfl⟩
theorem q_X4_plan_130 : am_qV mX4_plan 130 mX1_bestCost 1 := ⟨cb_X4_plan_X1_bestCost 130, wd_503, wd_504, wd_505⟩
theorem pd_X1_actionAt : (parseMethodDescriptor yX1_actionAt.desc).map (fun d => d.parameters.length) = some 2 := by decide +kernel
theorem wd_572 : Cond.code yX1_actionAt cX1_actionAt 7 (some .int) ∈ am_T := am_T_in 572 (by decide +kernel) (by decide +kernel)
theorem cb_X4_plan_X1_actionAt (i : Nat) : am_cb mX4_plan i mX1_actionAt 2 := ⟨wd_572, wd_60, ⟨pl_X1.1, pl_X1.2, pd_X1_actionAt⟩, Nat.le_of_ble_eq_true rfl, Nat.le_of_ble_eq_true rfl⟩
theorem wd_569 : Cond.methodLink RX4 135 yX1_actionAt ∈ am_T := am_T_in 569 (by decide +kernel) (by decide +kernel)
theorem wd_570 : Cond.instanceMethod yX1_actionAt ∈ am_T := am_T_in 570 (by decide +kernel) (by decide +kernel)
theorem wd_571 : Cond.selects RX1 yX1_actionAt yX1_actionAt ∈ am_T := am_T_in 571 (by decide +kernel) (by decide +kernel)
theorem q_X4_plan_135 : am_qV mX4_plan 135 mX1_actionAt 2 := ⟨cb_X4_plan_X1_actionAt 135, wd_569, wd_570, wd_571⟩
theorem pf_X4_save : plainFor yX4_save = true := by unfold plainFor; rw [show plainName yX4_save.cls = true from pn_X4]; rfl
def mX4_save : am_M := (yX4_save, cX4_save, 3, some .int, 2, 47)
theorem pd_X4_isSlot : (parseMethodDescriptor yX4_isSlot.desc).map (fun d => d.parameters.length) = some 1 := by decide +kernel
theorem wd_583 : Cond.code yX4_isSlot cX4_isSlot 1 (some .boolean) ∈ am_T := am_T_in 583 (by decide +kernel) (by decide +kernel)
theorem cb_X4_save_X4_isSlot (i : Nat) : am_cb mX4_save i mX4_isSlot 1 := ⟨wd_583, wd_55, ⟨pl_X4.1, pl_X4.2, pd_X4_isSlot⟩, Nat.le_of_ble_eq_true rfl, Nat.le_of_ble_eq_true rfl⟩
theorem wd_581 : Cond.methodLink RX4 139 yX4_isSlot ∈ am_T := am_T_in 581 (by decide +kernel) (by decide +kernel)
theorem wd_582 : Cond.static yX4_isSlot ∈ am_T := am_T_in 582 (by decide +kernel) (by decide +kernel)
theorem q_X4_save_139 : am_qS mX4_save 139 mX4_isSlot 1 ∨ am_qN mX4_save 139 mX4_isSlot 1 := Or.inl ⟨cb_X4_save_X4_isSlot 139, wd_581, wd_582⟩
theorem fl_X4_16 : am_fl RX4 16 4 1 := ⟨RX4, TX4, 5, tyX4, cl_X4, Nat.le_of_ble_eq_true rfl, rfl, Or.inl wd_125⟩
theorem cb_X4_save_X3_copyFrom (i : Nat) : am_cb mX4_save i mX3_copyFrom 1 := ⟨wd_447, wd_56, ⟨pl_X3.1, pl_X3.2, pd_X3_copyFrom⟩, Nat.le_of_ble_eq_true rfl, Nat.le_of_ble_eq_true rfl⟩
theorem wd_584 : Cond.methodLink RX4 142 yX3_copyFrom ∈ am_T := am_T_in 584 (by decide +kernel) (by decide +kernel)
theorem q_X4_save_142 : am_qV mX4_save 142 mX3_copyFrom 1 := ⟨cb_X4_save_X3_copyFrom 142, wd_584, wd_445, wd_446⟩
theorem cb_X4_save_X3_init (i : Nat) : am_cb mX4_save i mX3_init 0 := ⟨wd_77, wd_56, ⟨pl_X3.1, pl_X3.2, pd_X3_init⟩, Nat.le_of_ble_eq_true rfl, Nat.le_of_ble_eq_true rfl⟩
theorem q_X4_save_11 : am_qI mX4_save 11 mX3_init 0 := ⟨cb_X4_save_X3_init 11, wd_75, wd_76⟩
theorem pf_X4_restore : plainFor yX4_restore = true := by unfold plainFor; rw [show plainName yX4_restore.cls = true from pn_X4]; rfl
def mX4_restore : am_M := (yX4_restore, cX4_restore, 3, some .int, 2, 47)
theorem cb_X4_restore_X4_isSlot (i : Nat) : am_cb mX4_restore i mX4_isSlot 1 := ⟨wd_583, wd_55, ⟨pl_X4.1, pl_X4.2, pd_X4_isSlot⟩, Nat.le_of_ble_eq_true rfl, Nat.le_of_ble_eq_true rfl⟩
theorem q_X4_restore_139 : am_qS mX4_restore 139 mX4_isSlot 1 ∨ am_qN mX4_restore 139 mX4_isSlot 1 := Or.inl ⟨cb_X4_restore_X4_isSlot 139, wd_581, wd_582⟩
theorem cb_X4_restore_X4_houseChanges (i : Nat) : am_cb mX4_restore i mX4_houseChanges 0 := ⟨wd_162, wd_55, ⟨pl_X4.1, pl_X4.2, pd_X4_houseChanges⟩, Nat.le_of_ble_eq_true rfl, Nat.le_of_ble_eq_true rfl⟩
theorem q_X4_restore_46 : am_qV mX4_restore 46 mX4_houseChanges 0 := ⟨cb_X4_restore_X4_houseChanges 46, wd_159, wd_161, wd_1⟩
theorem cb_X4_restore_X3_copyFrom (i : Nat) : am_cb mX4_restore i mX3_copyFrom 1 := ⟨wd_447, wd_56, ⟨pl_X3.1, pl_X3.2, pd_X3_copyFrom⟩, Nat.le_of_ble_eq_true rfl, Nat.le_of_ble_eq_true rfl⟩
theorem q_X4_restore_142 : am_qV mX4_restore 142 mX3_copyFrom 1 := ⟨cb_X4_restore_X3_copyFrom 142, wd_584, wd_445, wd_446⟩
