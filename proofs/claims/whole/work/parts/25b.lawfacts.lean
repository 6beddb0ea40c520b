def mL_law : am_M := (yL_law, cL_law, 4, some .boolean, 9, 370)
theorem pd_X4_setTrack : (parseMethodDescriptor yX4_setTrack.desc).map (fun d => d.parameters.length) = some 2 := by decide +kernel
theorem wd_143 : Cond.code yX4_setTrack cX4_setTrack 3 (some .int) ∈ am_T := am_T_in 143 (by decide +kernel) (by decide +kernel)
theorem cb_L_law_X4_setTrack (i : Nat) : am_cb mL_law i mX4_setTrack 2 := ⟨wd_143, wd_55, ⟨pl_X4.1, pl_X4.2, pd_X4_setTrack⟩, Nat.le_of_ble_eq_true rfl, Nat.le_of_ble_eq_true rfl⟩
theorem wd_140 : Cond.methodLink RL 13 yX4_setTrack ∈ am_T := am_T_in 140 (by decide +kernel) (by decide +kernel)
theorem wd_141 : Cond.instanceMethod yX4_setTrack ∈ am_T := am_T_in 141 (by decide +kernel) (by decide +kernel)
theorem wd_142 : Cond.selects RX4 yX4_setTrack yX4_setTrack ∈ am_T := am_T_in 142 (by decide +kernel) (by decide +kernel)
theorem q_L_law_13 : am_qV mL_law 13 mX4_setTrack 2 := ⟨cb_L_law_X4_setTrack 13, wd_140, wd_141, wd_142⟩
theorem pd_X5_setTrack : (parseMethodDescriptor yX5_setTrack.desc).map (fun d => d.parameters.length) = some 2 := by decide +kernel
theorem wd_696 : Cond.code yX5_setTrack cX5_setTrack 4 (some .int) ∈ am_T := am_T_in 696 (by decide +kernel) (by decide +kernel)
theorem cb_L_law_X5_setTrack (i : Nat) : am_cb mL_law i mX5_setTrack 2 := ⟨wd_696, wd_58, ⟨pl_X5.1, pl_X5.2, pd_X5_setTrack⟩, Nat.le_of_ble_eq_true rfl, Nat.le_of_ble_eq_true rfl⟩
theorem wd_693 : Cond.methodLink RL 17 yX5_setTrack ∈ am_T := am_T_in 693 (by decide +kernel) (by decide +kernel)
theorem wd_694 : Cond.instanceMethod yX5_setTrack ∈ am_T := am_T_in 694 (by decide +kernel) (by decide +kernel)
theorem wd_695 : Cond.selects RX5 yX5_setTrack yX5_setTrack ∈ am_T := am_T_in 695 (by decide +kernel) (by decide +kernel)
theorem q_L_law_17 : am_qV mL_law 17 mX5_setTrack 2 := ⟨cb_L_law_X5_setTrack 17, wd_693, wd_694, wd_695⟩
theorem pd_X4_setTableLength : (parseMethodDescriptor yX4_setTableLength.desc).map (fun d => d.parameters.length) = some 1 := by decide +kernel
theorem wd_178 : Cond.code yX4_setTableLength cX4_setTableLength 2 (some .int) ∈ am_T := am_T_in 178 (by decide +kernel) (by decide +kernel)
theorem cb_L_law_X4_setTableLength (i : Nat) : am_cb mL_law i mX4_setTableLength 1 := ⟨wd_178, wd_55, ⟨pl_X4.1, pl_X4.2, pd_X4_setTableLength⟩, Nat.le_of_ble_eq_true rfl, Nat.le_of_ble_eq_true rfl⟩
theorem wd_175 : Cond.methodLink RL 18 yX4_setTableLength ∈ am_T := am_T_in 175 (by decide +kernel) (by decide +kernel)
theorem wd_176 : Cond.instanceMethod yX4_setTableLength ∈ am_T := am_T_in 176 (by decide +kernel) (by decide +kernel)
theorem wd_177 : Cond.selects RX4 yX4_setTableLength yX4_setTableLength ∈ am_T := am_T_in 177 (by decide +kernel) (by decide +kernel)
theorem q_L_law_18 : am_qV mL_law 18 mX4_setTableLength 1 := ⟨cb_L_law_X4_setTableLength 18, wd_175, wd_176, wd_177⟩
theorem pd_X5_setTableLength : (parseMethodDescriptor yX5_setTableLength.desc).map (fun d => d.parameters.length) = some 1 := by decide +kernel
theorem wd_718 : Cond.code yX5_setTableLength cX5_setTableLength 3 (some .int) ∈ am_T := am_T_in 718 (by decide +kernel) (by decide +kernel)
theorem cb_L_law_X5_setTableLength (i : Nat) : am_cb mL_law i mX5_setTableLength 1 := ⟨wd_718, wd_58, ⟨pl_X5.1, pl_X5.2, pd_X5_setTableLength⟩, Nat.le_of_ble_eq_true rfl, Nat.le_of_ble_eq_true rfl⟩
theorem wd_715 : Cond.methodLink RL 22 yX5_setTableLength ∈ am_T := am_T_in 715 (by decide +kernel) (by decide +kernel)
theorem wd_716 : Cond.instanceMethod yX5_setTableLength ∈ am_T := am_T_in 716 (by decide +kernel) (by decide +kernel)
theorem wd_717 : Cond.selects RX5 yX5_setTableLength yX5_setTableLength ∈ am_T := am_T_in 717 (by decide +kernel) (by decide +kernel)
theorem q_L_law_22 : am_qV mL_law 22 mX5_setTableLength 1 := ⟨cb_L_law_X5_setTableLength 22, wd_715, wd_716, wd_717⟩
theorem pd_X4_addLocomotive : (parseMethodDescriptor yX4_addLocomotive.desc).map (fun d => d.parameters.length) = some 2 := by decide +kernel
theorem wd_182 : Cond.code yX4_addLocomotive cX4_addLocomotive 3 (some .int) ∈ am_T := am_T_in 182 (by decide +kernel) (by decide +kernel)
theorem cb_L_law_X4_addLocomotive (i : Nat) : am_cb mL_law i mX4_addLocomotive 2 := ⟨wd_182, wd_55, ⟨pl_X4.1, pl_X4.2, pd_X4_addLocomotive⟩, Nat.le_of_ble_eq_true rfl, Nat.le_of_ble_eq_true rfl⟩
theorem wd_179 : Cond.methodLink RL 23 yX4_addLocomotive ∈ am_T := am_T_in 179 (by decide +kernel) (by decide +kernel)
theorem wd_180 : Cond.instanceMethod yX4_addLocomotive ∈ am_T := am_T_in 180 (by decide +kernel) (by decide +kernel)
theorem wd_181 : Cond.selects RX4 yX4_addLocomotive yX4_addLocomotive ∈ am_T := am_T_in 181 (by decide +kernel) (by decide +kernel)
theorem q_L_law_23 : am_qV mL_law 23 mX4_addLocomotive 2 := ⟨cb_L_law_X4_addLocomotive 23, wd_179, wd_180, wd_181⟩
theorem pd_X5_addLocomotive : (parseMethodDescriptor yX5_addLocomotive.desc).map (fun d => d.parameters.length) = some 2 := by decide +kernel
theorem wd_722 : Cond.code yX5_addLocomotive cX5_addLocomotive 4 (some .int) ∈ am_T := am_T_in 722 (by decide +kernel) (by decide +kernel)
theorem cb_L_law_X5_addLocomotive (i : Nat) : am_cb mL_law i mX5_addLocomotive 2 := ⟨wd_722, wd_58, ⟨pl_X5.1, pl_X5.2, pd_X5_addLocomotive⟩, Nat.le_of_ble_eq_true rfl, Nat.le_of_ble_eq_true rfl⟩
theorem wd_719 : Cond.methodLink RL 26 yX5_addLocomotive ∈ am_T := am_T_in 719 (by decide +kernel) (by decide +kernel)
theorem wd_720 : Cond.instanceMethod yX5_addLocomotive ∈ am_T := am_T_in 720 (by decide +kernel) (by decide +kernel)
theorem wd_721 : Cond.selects RX5 yX5_addLocomotive yX5_addLocomotive ∈ am_T := am_T_in 721 (by decide +kernel) (by decide +kernel)
theorem q_L_law_26 : am_qV mL_law 26 mX5_addLocomotive 2 := ⟨cb_L_law_X5_addLocomotive 26, wd_719, wd_720, wd_721⟩
theorem pd_X4_removeLocomotive : (parseMethodDescriptor yX4_removeLocomotive.desc).map (fun d => d.parameters.length) = some 0 := by decide +kernel
theorem wd_216 : Cond.code yX4_removeLocomotive cX4_removeLocomotive 1 (some .int) ∈ am_T := am_T_in 216 (by decide +kernel) (by decide +kernel)
theorem cb_L_law_X4_removeLocomotive (i : Nat) : am_cb mL_law i mX4_removeLocomotive 0 := ⟨wd_216, wd_55, ⟨pl_X4.1, pl_X4.2, pd_X4_removeLocomotive⟩, Nat.le_of_ble_eq_true rfl, Nat.le_of_ble_eq_true rfl⟩
theorem wd_213 : Cond.methodLink RL 27 yX4_removeLocomotive ∈ am_T := am_T_in 213 (by decide +kernel) (by decide +kernel)
theorem wd_214 : Cond.instanceMethod yX4_removeLocomotive ∈ am_T := am_T_in 214 (by decide +kernel) (by decide +kernel)
theorem wd_215 : Cond.selects RX4 yX4_removeLocomotive yX4_removeLocomotive ∈ am_T := am_T_in 215 (by decide +kernel) (by decide +kernel)
theorem q_L_law_27 : am_qV mL_law 27 mX4_removeLocomotive 0 := ⟨cb_L_law_X4_removeLocomotive 27, wd_213, wd_214, wd_215⟩
theorem pd_X5_removeLocomotive : (parseMethodDescriptor yX5_removeLocomotive.desc).map (fun d => d.parameters.length) = some 0 := by decide +kernel
theorem wd_734 : Cond.code yX5_removeLocomotive cX5_removeLocomotive 5 (some .int) ∈ am_T := am_T_in 734 (by decide +kernel) (by decide +kernel)
theorem cb_L_law_X5_removeLocomotive (i : Nat) : am_cb mL_law i mX5_removeLocomotive 0 := ⟨wd_734, wd_58, ⟨pl_X5.1, pl_X5.2, pd_X5_removeLocomotive⟩, Nat.le_of_ble_eq_true rfl, Nat.le_of_ble_eq_true rfl⟩
theorem wd_731 : Cond.methodLink RL 31 yX5_removeLocomotive ∈ am_T := am_T_in 731 (by decide +kernel) (by decide +kernel)
theorem wd_732 : Cond.instanceMethod yX5_removeLocomotive ∈ am_T := am_T_in 732 (by decide +kernel) (by decide +kernel)
theorem wd_733 : Cond.selects RX5 yX5_removeLocomotive yX5_removeLocomotive ∈ am_T := am_T_in 733 (by decide +kernel) (by decide +kernel)
theorem q_L_law_31 : am_qV mL_law 31 mX5_removeLocomotive 0 := ⟨cb_L_law_X5_removeLocomotive 31, wd_731, wd_732, wd_733⟩
theorem pd_X4_setDead : (parseMethodDescriptor yX4_setDead.desc).map (fun d => d.parameters.length) = some 2 := by decide +kernel
theorem wd_240 : Cond.code yX4_setDead cX4_setDead 4 (some .int) ∈ am_T := am_T_in 240 (by decide +kernel) (by decide +kernel)
theorem cb_L_law_X4_setDead (i : Nat) : am_cb mL_law i mX4_setDead 2 := ⟨wd_240, wd_55, ⟨pl_X4.1, pl_X4.2, pd_X4_setDead⟩, Nat.le_of_ble_eq_true rfl, Nat.le_of_ble_eq_true rfl⟩
theorem wd_237 : Cond.methodLink RL 32 yX4_setDead ∈ am_T := am_T_in 237 (by decide +kernel) (by decide +kernel)
theorem wd_238 : Cond.instanceMethod yX4_setDead ∈ am_T := am_T_in 238 (by decide +kernel) (by decide +kernel)
theorem wd_239 : Cond.selects RX4 yX4_setDead yX4_setDead ∈ am_T := am_T_in 239 (by decide +kernel) (by decide +kernel)
theorem q_L_law_32 : am_qV mL_law 32 mX4_setDead 2 := ⟨cb_L_law_X4_setDead 32, wd_237, wd_238, wd_239⟩
theorem pd_X5_setDead : (parseMethodDescriptor yX5_setDead.desc).map (fun d => d.parameters.length) = some 2 := by decide +kernel
theorem wd_746 : Cond.code yX5_setDead cX5_setDead 4 (some .int) ∈ am_T := am_T_in 746 (by decide +kernel) (by decide +kernel)
theorem cb_L_law_X5_setDead (i : Nat) : am_cb mL_law i mX5_setDead 2 := ⟨wd_746, wd_58, ⟨pl_X5.1, pl_X5.2, pd_X5_setDead⟩, Nat.le_of_ble_eq_true rfl, Nat.le_of_ble_eq_true rfl⟩
theorem wd_743 : Cond.methodLink RL 36 yX5_setDead ∈ am_T := am_T_in 743 (by decide +kernel) (by decide +kernel)
theorem wd_744 : Cond.instanceMethod yX5_setDead ∈ am_T := am_T_in 744 (by decide +kernel) (by decide +kernel)
theorem wd_745 : Cond.selects RX5 yX5_setDead yX5_setDead ∈ am_T := am_T_in 745 (by decide +kernel) (by decide +kernel)
theorem q_L_law_36 : am_qV mL_law 36 mX5_setDead 2 := ⟨cb_L_law_X5_setDead 36, wd_743, wd_744, wd_745⟩
theorem pd_X4_locomotives : (parseMethodDescriptor yX4_locomotives.desc).map (fun d => d.parameters.length) = some 0 := by decide +kernel
theorem wd_250 : Cond.code yX4_locomotives cX4_locomotives 1 (some .int) ∈ am_T := am_T_in 250 (by decide +kernel) (by decide +kernel)
theorem cb_L_law_X4_locomotives (i : Nat) : am_cb mL_law i mX4_locomotives 0 := ⟨wd_250, wd_55, ⟨pl_X4.1, pl_X4.2, pd_X4_locomotives⟩, Nat.le_of_ble_eq_true rfl, Nat.le_of_ble_eq_true rfl⟩
theorem wd_247 : Cond.methodLink RL 37 yX4_locomotives ∈ am_T := am_T_in 247 (by decide +kernel) (by decide +kernel)
theorem wd_248 : Cond.instanceMethod yX4_locomotives ∈ am_T := am_T_in 248 (by decide +kernel) (by decide +kernel)
theorem wd_249 : Cond.selects RX4 yX4_locomotives yX4_locomotives ∈ am_T := am_T_in 249 (by decide +kernel) (by decide +kernel)
theorem q_L_law_37 : am_qV mL_law 37 mX4_locomotives 0 := ⟨cb_L_law_X4_locomotives 37, wd_247, wd_248, wd_249⟩
theorem pd_X5_locomotives : (parseMethodDescriptor yX5_locomotives.desc).map (fun d => d.parameters.length) = some 0 := by decide +kernel
theorem wd_754 : Cond.code yX5_locomotives cX5_locomotives 1 (some .int) ∈ am_T := am_T_in 754 (by decide +kernel) (by decide +kernel)
theorem cb_L_law_X5_locomotives (i : Nat) : am_cb mL_law i mX5_locomotives 0 := ⟨wd_754, wd_58, ⟨pl_X5.1, pl_X5.2, pd_X5_locomotives⟩, Nat.le_of_ble_eq_true rfl, Nat.le_of_ble_eq_true rfl⟩
theorem wd_751 : Cond.methodLink RL 40 yX5_locomotives ∈ am_T := am_T_in 751 (by decide +kernel) (by decide +kernel)
theorem wd_752 : Cond.instanceMethod yX5_locomotives ∈ am_T := am_T_in 752 (by decide +kernel) (by decide +kernel)
theorem wd_753 : Cond.selects RX5 yX5_locomotives yX5_locomotives ∈ am_T := am_T_in 753 (by decide +kernel) (by decide +kernel)
theorem q_L_law_40 : am_qV mL_law 40 mX5_locomotives 0 := ⟨cb_L_law_X5_locomotives 40, wd_751, wd_752, wd_753⟩
theorem pd_X4_trackLength : (parseMethodDescriptor yX4_trackLength.desc).map (fun d => d.parameters.length) = some 1 := by decide +kernel
theorem wd_254 : Cond.code yX4_trackLength cX4_trackLength 2 (some .int) ∈ am_T := am_T_in 254 (by decide +kernel) (by decide +kernel)
theorem cb_L_law_X4_trackLength (i : Nat) : am_cb mL_law i mX4_trackLength 1 := ⟨wd_254, wd_55, ⟨pl_X4.1, pl_X4.2, pd_X4_trackLength⟩, Nat.le_of_ble_eq_true rfl, Nat.le_of_ble_eq_true rfl⟩
theorem wd_251 : Cond.methodLink RL 41 yX4_trackLength ∈ am_T := am_T_in 251 (by decide +kernel) (by decide +kernel)
theorem wd_252 : Cond.instanceMethod yX4_trackLength ∈ am_T := am_T_in 252 (by decide +kernel) (by decide +kernel)
theorem wd_253 : Cond.selects RX4 yX4_trackLength yX4_trackLength ∈ am_T := am_T_in 253 (by decide +kernel) (by decide +kernel)
theorem q_L_law_41 : am_qV mL_law 41 mX4_trackLength 1 := ⟨cb_L_law_X4_trackLength 41, wd_251, wd_252, wd_253⟩
theorem pd_X5_trackLength : (parseMethodDescriptor yX5_trackLength.desc).map (fun d => d.parameters.length) = some 1 := by decide +kernel
theorem wd_758 : Cond.code yX5_trackLength cX5_trackLength 2 (some .int) ∈ am_T := am_T_in 758 (by decide +kernel) (by decide +kernel)
theorem cb_L_law_X5_trackLength (i : Nat) : am_cb mL_law i mX5_trackLength 1 := ⟨wd_758, wd_58, ⟨pl_X5.1, pl_X5.2, pd_X5_trackLength⟩, Nat.le_of_ble_eq_true rfl, Nat.le_of_ble_eq_true rfl⟩
theorem wd_755 : Cond.methodLink RL 44 yX5_trackLength ∈ am_T := am_T_in 755 (by decide +kernel) (by decide +kernel)
theorem wd_756 : Cond.instanceMethod yX5_trackLength ∈ am_T := am_T_in 756 (by decide +kernel) (by decide +kernel)
theorem wd_757 : Cond.selects RX5 yX5_trackLength yX5_trackLength ∈ am_T := am_T_in 757 (by decide +kernel) (by decide +kernel)
theorem q_L_law_44 : am_qV mL_law 44 mX5_trackLength 1 := ⟨cb_L_law_X5_trackLength 44, wd_755, wd_756, wd_757⟩
theorem pd_X4_freeLength : (parseMethodDescriptor yX4_freeLength.desc).map (fun d => d.parameters.length) = some 1 := by decide +kernel
theorem wd_258 : Cond.code yX4_freeLength cX4_freeLength 3 (some .int) ∈ am_T := am_T_in 258 (by decide +kernel) (by decide +kernel)
theorem cb_L_law_X4_freeLength (i : Nat) : am_cb mL_law i mX4_freeLength 1 := ⟨wd_258, wd_55, ⟨pl_X4.1, pl_X4.2, pd_X4_freeLength⟩, Nat.le_of_ble_eq_true rfl, Nat.le_of_ble_eq_true rfl⟩
theorem wd_255 : Cond.methodLink RL 45 yX4_freeLength ∈ am_T := am_T_in 255 (by decide +kernel) (by decide +kernel)
theorem wd_256 : Cond.instanceMethod yX4_freeLength ∈ am_T := am_T_in 256 (by decide +kernel) (by decide +kernel)
theorem wd_257 : Cond.selects RX4 yX4_freeLength yX4_freeLength ∈ am_T := am_T_in 257 (by decide +kernel) (by decide +kernel)
theorem q_L_law_45 : am_qV mL_law 45 mX4_freeLength 1 := ⟨cb_L_law_X4_freeLength 45, wd_255, wd_256, wd_257⟩
theorem pd_X5_freeLength : (parseMethodDescriptor yX5_freeLength.desc).map (fun d => d.parameters.length) = some 1 := by decide +kernel
theorem wd_762 : Cond.code yX5_freeLength cX5_freeLength 2 (some .int) ∈ am_T := am_T_in 762 (by decide +kernel) (by decide +kernel)
theorem cb_L_law_X5_freeLength (i : Nat) : am_cb mL_law i mX5_freeLength 1 := ⟨wd_762, wd_58, ⟨pl_X5.1, pl_X5.2, pd_X5_freeLength⟩, Nat.le_of_ble_eq_true rfl, Nat.le_of_ble_eq_true rfl⟩
theorem wd_759 : Cond.methodLink RL 48 yX5_freeLength ∈ am_T := am_T_in 759 (by decide +kernel) (by decide +kernel)
theorem wd_760 : Cond.instanceMethod yX5_freeLength ∈ am_T := am_T_in 760 (by decide +kernel) (by decide +kernel)
theorem wd_761 : Cond.selects RX5 yX5_freeLength yX5_freeLength ∈ am_T := am_T_in 761 (by decide +kernel) (by decide +kernel)
theorem q_L_law_48 : am_qV mL_law 48 mX5_freeLength 1 := ⟨cb_L_law_X5_freeLength 48, wd_759, wd_760, wd_761⟩
theorem pd_X4_row : (parseMethodDescriptor yX4_row.desc).map (fun d => d.parameters.length) = some 2 := by decide +kernel
theorem wd_266 : Cond.code yX4_row cX4_row 4 (some .int) ∈ am_T := am_T_in 266 (by decide +kernel) (by decide +kernel)
theorem cb_L_law_X4_row (i : Nat) : am_cb mL_law i mX4_row 2 := ⟨wd_266, wd_55, ⟨pl_X4.1, pl_X4.2, pd_X4_row⟩, Nat.le_of_ble_eq_true rfl, Nat.le_of_ble_eq_true rfl⟩
theorem wd_263 : Cond.methodLink RL 49 yX4_row ∈ am_T := am_T_in 263 (by decide +kernel) (by decide +kernel)
theorem wd_264 : Cond.instanceMethod yX4_row ∈ am_T := am_T_in 264 (by decide +kernel) (by decide +kernel)
theorem wd_265 : Cond.selects RX4 yX4_row yX4_row ∈ am_T := am_T_in 265 (by decide +kernel) (by decide +kernel)
theorem q_L_law_49 : am_qV mL_law 49 mX4_row 2 := ⟨cb_L_law_X4_row 49, wd_263, wd_264, wd_265⟩
theorem pd_X5_row : (parseMethodDescriptor yX5_row.desc).map (fun d => d.parameters.length) = some 2 := by decide +kernel
theorem wd_766 : Cond.code yX5_row cX5_row 4 (some .int) ∈ am_T := am_T_in 766 (by decide +kernel) (by decide +kernel)
theorem cb_L_law_X5_row (i : Nat) : am_cb mL_law i mX5_row 2 := ⟨wd_766, wd_58, ⟨pl_X5.1, pl_X5.2, pd_X5_row⟩, Nat.le_of_ble_eq_true rfl, Nat.le_of_ble_eq_true rfl⟩
theorem wd_763 : Cond.methodLink RL 52 yX5_row ∈ am_T := am_T_in 763 (by decide +kernel) (by decide +kernel)
theorem wd_764 : Cond.instanceMethod yX5_row ∈ am_T := am_T_in 764 (by decide +kernel) (by decide +kernel)
theorem wd_765 : Cond.selects RX5 yX5_row yX5_row ∈ am_T := am_T_in 765 (by decide +kernel) (by decide +kernel)
theorem q_L_law_52 : am_qV mL_law 52 mX5_row 2 := ⟨cb_L_law_X5_row 52, wd_763, wd_764, wd_765⟩
theorem pd_X4_place : (parseMethodDescriptor yX4_place.desc).map (fun d => d.parameters.length) = some 1 := by decide +kernel
theorem wd_272 : Cond.code yX4_place cX4_place 2 (some .int) ∈ am_T := am_T_in 272 (by decide +kernel) (by decide +kernel)
theorem cb_L_law_X4_place (i : Nat) : am_cb mL_law i mX4_place 1 := ⟨wd_272, wd_55, ⟨pl_X4.1, pl_X4.2, pd_X4_place⟩, Nat.le_of_ble_eq_true rfl, Nat.le_of_ble_eq_true rfl⟩
theorem wd_269 : Cond.methodLink RL 53 yX4_place ∈ am_T := am_T_in 269 (by decide +kernel) (by decide +kernel)
theorem wd_270 : Cond.instanceMethod yX4_place ∈ am_T := am_T_in 270 (by decide +kernel) (by decide +kernel)
theorem wd_271 : Cond.selects RX4 yX4_place yX4_place ∈ am_T := am_T_in 271 (by decide +kernel) (by decide +kernel)
theorem q_L_law_53 : am_qV mL_law 53 mX4_place 1 := ⟨cb_L_law_X4_place 53, wd_269, wd_270, wd_271⟩
theorem pd_X5_place : (parseMethodDescriptor yX5_place.desc).map (fun d => d.parameters.length) = some 1 := by decide +kernel
theorem wd_770 : Cond.code yX5_place cX5_place 2 (some .int) ∈ am_T := am_T_in 770 (by decide +kernel) (by decide +kernel)
theorem cb_L_law_X5_place (i : Nat) : am_cb mL_law i mX5_place 1 := ⟨wd_770, wd_58, ⟨pl_X5.1, pl_X5.2, pd_X5_place⟩, Nat.le_of_ble_eq_true rfl, Nat.le_of_ble_eq_true rfl⟩
theorem wd_767 : Cond.methodLink RL 56 yX5_place ∈ am_T := am_T_in 767 (by decide +kernel) (by decide +kernel)
theorem wd_768 : Cond.instanceMethod yX5_place ∈ am_T := am_T_in 768 (by decide +kernel) (by decide +kernel)
theorem wd_769 : Cond.selects RX5 yX5_place yX5_place ∈ am_T := am_T_in 769 (by decide +kernel) (by decide +kernel)
theorem q_L_law_56 : am_qV mL_law 56 mX5_place 1 := ⟨cb_L_law_X5_place 56, wd_767, wd_768, wd_769⟩
theorem pd_X4_pointsTo : (parseMethodDescriptor yX4_pointsTo.desc).map (fun d => d.parameters.length) = some 1 := by decide +kernel
theorem wd_277 : Cond.code yX4_pointsTo cX4_pointsTo 2 (some .int) ∈ am_T := am_T_in 277 (by decide +kernel) (by decide +kernel)
theorem cb_L_law_X4_pointsTo (i : Nat) : am_cb mL_law i mX4_pointsTo 1 := ⟨wd_277, wd_55, ⟨pl_X4.1, pl_X4.2, pd_X4_pointsTo⟩, Nat.le_of_ble_eq_true rfl, Nat.le_of_ble_eq_true rfl⟩
theorem wd_274 : Cond.methodLink RL 57 yX4_pointsTo ∈ am_T := am_T_in 274 (by decide +kernel) (by decide +kernel)
theorem wd_275 : Cond.instanceMethod yX4_pointsTo ∈ am_T := am_T_in 275 (by decide +kernel) (by decide +kernel)
theorem wd_276 : Cond.selects RX4 yX4_pointsTo yX4_pointsTo ∈ am_T := am_T_in 276 (by decide +kernel) (by decide +kernel)
theorem q_L_law_57 : am_qV mL_law 57 mX4_pointsTo 1 := ⟨cb_L_law_X4_pointsTo 57, wd_274, wd_275, wd_276⟩
theorem pd_X5_pointsTo : (parseMethodDescriptor yX5_pointsTo.desc).map (fun d => d.parameters.length) = some 1 := by decide +kernel
theorem wd_774 : Cond.code yX5_pointsTo cX5_pointsTo 2 (some .int) ∈ am_T := am_T_in 774 (by decide +kernel) (by decide +kernel)
theorem cb_L_law_X5_pointsTo (i : Nat) : am_cb mL_law i mX5_pointsTo 1 := ⟨wd_774, wd_58, ⟨pl_X5.1, pl_X5.2, pd_X5_pointsTo⟩, Nat.le_of_ble_eq_true rfl, Nat.le_of_ble_eq_true rfl⟩
theorem wd_771 : Cond.methodLink RL 60 yX5_pointsTo ∈ am_T := am_T_in 771 (by decide +kernel) (by decide +kernel)
theorem wd_772 : Cond.instanceMethod yX5_pointsTo ∈ am_T := am_T_in 772 (by decide +kernel) (by decide +kernel)
theorem wd_773 : Cond.selects RX5 yX5_pointsTo yX5_pointsTo ∈ am_T := am_T_in 773 (by decide +kernel) (by decide +kernel)
theorem q_L_law_60 : am_qV mL_law 60 mX5_pointsTo 1 := ⟨cb_L_law_X5_pointsTo 60, wd_771, wd_772, wd_773⟩
theorem pd_X4_turn : (parseMethodDescriptor yX4_turn.desc).map (fun d => d.parameters.length) = some 1 := by decide +kernel
theorem wd_288 : Cond.code yX4_turn cX4_turn 5 (some .int) ∈ am_T := am_T_in 288 (by decide +kernel) (by decide +kernel)
theorem cb_L_law_X4_turn (i : Nat) : am_cb mL_law i mX4_turn 1 := ⟨wd_288, wd_55, ⟨pl_X4.1, pl_X4.2, pd_X4_turn⟩, Nat.le_of_ble_eq_true rfl, Nat.le_of_ble_eq_true rfl⟩
theorem wd_285 : Cond.methodLink RL 61 yX4_turn ∈ am_T := am_T_in 285 (by decide +kernel) (by decide +kernel)
theorem wd_286 : Cond.instanceMethod yX4_turn ∈ am_T := am_T_in 286 (by decide +kernel) (by decide +kernel)
theorem wd_287 : Cond.selects RX4 yX4_turn yX4_turn ∈ am_T := am_T_in 287 (by decide +kernel) (by decide +kernel)
theorem q_L_law_61 : am_qV mL_law 61 mX4_turn 1 := ⟨cb_L_law_X4_turn 61, wd_285, wd_286, wd_287⟩
theorem pd_X5_turn : (parseMethodDescriptor yX5_turn.desc).map (fun d => d.parameters.length) = some 1 := by decide +kernel
theorem wd_785 : Cond.code yX5_turn cX5_turn 4 (some .int) ∈ am_T := am_T_in 785 (by decide +kernel) (by decide +kernel)
theorem cb_L_law_X5_turn (i : Nat) : am_cb mL_law i mX5_turn 1 := ⟨wd_785, wd_58, ⟨pl_X5.1, pl_X5.2, pd_X5_turn⟩, Nat.le_of_ble_eq_true rfl, Nat.le_of_ble_eq_true rfl⟩
theorem wd_782 : Cond.methodLink RL 64 yX5_turn ∈ am_T := am_T_in 782 (by decide +kernel) (by decide +kernel)
theorem wd_783 : Cond.instanceMethod yX5_turn ∈ am_T := am_T_in 783 (by decide +kernel) (by decide +kernel)
theorem wd_784 : Cond.selects RX5 yX5_turn yX5_turn ∈ am_T := am_T_in 784 (by decide +kernel) (by decide +kernel)
theorem q_L_law_64 : am_qV mL_law 64 mX5_turn 1 := ⟨cb_L_law_X5_turn 64, wd_782, wd_783, wd_784⟩
theorem pd_X4_moveIn : (parseMethodDescriptor yX4_moveIn.desc).map (fun d => d.parameters.length) = some 2 := by decide +kernel
theorem wd_319 : Cond.code yX4_moveIn cX4_moveIn 3 (some .int) ∈ am_T := am_T_in 319 (by decide +kernel) (by decide +kernel)
theorem cb_L_law_X4_moveIn (i : Nat) : am_cb mL_law i mX4_moveIn 2 := ⟨wd_319, wd_55, ⟨pl_X4.1, pl_X4.2, pd_X4_moveIn⟩, Nat.le_of_ble_eq_true rfl, Nat.le_of_ble_eq_true rfl⟩
theorem wd_316 : Cond.methodLink RL 65 yX4_moveIn ∈ am_T := am_T_in 316 (by decide +kernel) (by decide +kernel)
theorem wd_317 : Cond.instanceMethod yX4_moveIn ∈ am_T := am_T_in 317 (by decide +kernel) (by decide +kernel)
theorem wd_318 : Cond.selects RX4 yX4_moveIn yX4_moveIn ∈ am_T := am_T_in 318 (by decide +kernel) (by decide +kernel)
theorem q_L_law_65 : am_qV mL_law 65 mX4_moveIn 2 := ⟨cb_L_law_X4_moveIn 65, wd_316, wd_317, wd_318⟩
theorem pd_X5_moveIn : (parseMethodDescriptor yX5_moveIn.desc).map (fun d => d.parameters.length) = some 2 := by decide +kernel
theorem wd_797 : Cond.code yX5_moveIn cX5_moveIn 5 (some .int) ∈ am_T := am_T_in 797 (by decide +kernel) (by decide +kernel)
theorem cb_L_law_X5_moveIn (i : Nat) : am_cb mL_law i mX5_moveIn 2 := ⟨wd_797, wd_58, ⟨pl_X5.1, pl_X5.2, pd_X5_moveIn⟩, Nat.le_of_ble_eq_true rfl, Nat.le_of_ble_eq_true rfl⟩
theorem wd_794 : Cond.methodLink RL 68 yX5_moveIn ∈ am_T := am_T_in 794 (by decide +kernel) (by decide +kernel)
theorem wd_795 : Cond.instanceMethod yX5_moveIn ∈ am_T := am_T_in 795 (by decide +kernel) (by decide +kernel)
theorem wd_796 : Cond.selects RX5 yX5_moveIn yX5_moveIn ∈ am_T := am_T_in 796 (by decide +kernel) (by decide +kernel)
theorem q_L_law_68 : am_qV mL_law 68 mX5_moveIn 2 := ⟨cb_L_law_X5_moveIn 68, wd_794, wd_795, wd_796⟩
theorem pd_X4_moveOut : (parseMethodDescriptor yX4_moveOut.desc).map (fun d => d.parameters.length) = some 2 := by decide +kernel
theorem wd_335 : Cond.code yX4_moveOut cX4_moveOut 3 (some .int) ∈ am_T := am_T_in 335 (by decide +kernel) (by decide +kernel)
theorem cb_L_law_X4_moveOut (i : Nat) : am_cb mL_law i mX4_moveOut 2 := ⟨wd_335, wd_55, ⟨pl_X4.1, pl_X4.2, pd_X4_moveOut⟩, Nat.le_of_ble_eq_true rfl, Nat.le_of_ble_eq_true rfl⟩
theorem wd_332 : Cond.methodLink RL 69 yX4_moveOut ∈ am_T := am_T_in 332 (by decide +kernel) (by decide +kernel)
theorem wd_333 : Cond.instanceMethod yX4_moveOut ∈ am_T := am_T_in 333 (by decide +kernel) (by decide +kernel)
theorem wd_334 : Cond.selects RX4 yX4_moveOut yX4_moveOut ∈ am_T := am_T_in 334 (by decide +kernel) (by decide +kernel)
theorem q_L_law_69 : am_qV mL_law 69 mX4_moveOut 2 := ⟨cb_L_law_X4_moveOut 69, wd_332, wd_333, wd_334⟩
theorem pd_X5_moveOut : (parseMethodDescriptor yX5_moveOut.desc).map (fun d => d.parameters.length) = some 2 := by decide +kernel
theorem wd_809 : Cond.code yX5_moveOut cX5_moveOut 6 (some .int) ∈ am_T := am_T_in 809 (by decide +kernel) (by decide +kernel)
theorem cb_L_law_X5_moveOut (i : Nat) : am_cb mL_law i mX5_moveOut 2 := ⟨wd_809, wd_58, ⟨pl_X5.1, pl_X5.2, pd_X5_moveOut⟩, Nat.le_of_ble_eq_true rfl, Nat.le_of_ble_eq_true rfl⟩
theorem wd_806 : Cond.methodLink RL 72 yX5_moveOut ∈ am_T := am_T_in 806 (by decide +kernel) (by decide +kernel)
theorem wd_807 : Cond.instanceMethod yX5_moveOut ∈ am_T := am_T_in 807 (by decide +kernel) (by decide +kernel)
theorem wd_808 : Cond.selects RX5 yX5_moveOut yX5_moveOut ∈ am_T := am_T_in 808 (by decide +kernel) (by decide +kernel)
theorem q_L_law_72 : am_qV mL_law 72 mX5_moveOut 2 := ⟨cb_L_law_X5_moveOut 72, wd_806, wd_807, wd_808⟩
theorem pd_X4_turnsMade : (parseMethodDescriptor yX4_turnsMade.desc).map (fun d => d.parameters.length) = some 0 := by decide +kernel
theorem wd_339 : Cond.code yX4_turnsMade cX4_turnsMade 1 (some .int) ∈ am_T := am_T_in 339 (by decide +kernel) (by decide +kernel)
theorem cb_L_law_X4_turnsMade (i : Nat) : am_cb mL_law i mX4_turnsMade 0 := ⟨wd_339, wd_55, ⟨pl_X4.1, pl_X4.2, pd_X4_turnsMade⟩, Nat.le_of_ble_eq_true rfl, Nat.le_of_ble_eq_true rfl⟩
theorem wd_336 : Cond.methodLink RL 73 yX4_turnsMade ∈ am_T := am_T_in 336 (by decide +kernel) (by decide +kernel)
theorem wd_337 : Cond.instanceMethod yX4_turnsMade ∈ am_T := am_T_in 337 (by decide +kernel) (by decide +kernel)
theorem wd_338 : Cond.selects RX4 yX4_turnsMade yX4_turnsMade ∈ am_T := am_T_in 338 (by decide +kernel) (by decide +kernel)
theorem q_L_law_73 : am_qV mL_law 73 mX4_turnsMade 0 := ⟨cb_L_law_X4_turnsMade 73, wd_336, wd_337, wd_338⟩
theorem pd_X5_turnsMade : (parseMethodDescriptor yX5_turnsMade.desc).map (fun d => d.parameters.length) = some 0 := by decide +kernel
theorem wd_817 : Cond.code yX5_turnsMade cX5_turnsMade 1 (some .int) ∈ am_T := am_T_in 817 (by decide +kernel) (by decide +kernel)
theorem cb_L_law_X5_turnsMade (i : Nat) : am_cb mL_law i mX5_turnsMade 0 := ⟨wd_817, wd_58, ⟨pl_X5.1, pl_X5.2, pd_X5_turnsMade⟩, Nat.le_of_ble_eq_true rfl, Nat.le_of_ble_eq_true rfl⟩
theorem wd_814 : Cond.methodLink RL 76 yX5_turnsMade ∈ am_T := am_T_in 814 (by decide +kernel) (by decide +kernel)
theorem wd_815 : Cond.instanceMethod yX5_turnsMade ∈ am_T := am_T_in 815 (by decide +kernel) (by decide +kernel)
theorem wd_816 : Cond.selects RX5 yX5_turnsMade yX5_turnsMade ∈ am_T := am_T_in 816 (by decide +kernel) (by decide +kernel)
theorem q_L_law_76 : am_qV mL_law 76 mX5_turnsMade 0 := ⟨cb_L_law_X5_turnsMade 76, wd_814, wd_815, wd_816⟩
theorem pd_X4_undo : (parseMethodDescriptor yX4_undo.desc).map (fun d => d.parameters.length) = some 0 := by decide +kernel
theorem wd_343 : Cond.code yX4_undo cX4_undo 2 (some .int) ∈ am_T := am_T_in 343 (by decide +kernel) (by decide +kernel)
theorem cb_L_law_X4_undo (i : Nat) : am_cb mL_law i mX4_undo 0 := ⟨wd_343, wd_55, ⟨pl_X4.1, pl_X4.2, pd_X4_undo⟩, Nat.le_of_ble_eq_true rfl, Nat.le_of_ble_eq_true rfl⟩
theorem wd_340 : Cond.methodLink RL 77 yX4_undo ∈ am_T := am_T_in 340 (by decide +kernel) (by decide +kernel)
theorem wd_341 : Cond.instanceMethod yX4_undo ∈ am_T := am_T_in 341 (by decide +kernel) (by decide +kernel)
theorem wd_342 : Cond.selects RX4 yX4_undo yX4_undo ∈ am_T := am_T_in 342 (by decide +kernel) (by decide +kernel)
theorem q_L_law_77 : am_qV mL_law 77 mX4_undo 0 := ⟨cb_L_law_X4_undo 77, wd_340, wd_341, wd_342⟩
theorem pd_X5_undo : (parseMethodDescriptor yX5_undo.desc).map (fun d => d.parameters.length) = some 0 := by decide +kernel
theorem wd_821 : Cond.code yX5_undo cX5_undo 2 (some .int) ∈ am_T := am_T_in 821 (by decide +kernel) (by decide +kernel)
theorem cb_L_law_X5_undo (i : Nat) : am_cb mL_law i mX5_undo 0 := ⟨wd_821, wd_58, ⟨pl_X5.1, pl_X5.2, pd_X5_undo⟩, Nat.le_of_ble_eq_true rfl, Nat.le_of_ble_eq_true rfl⟩
theorem wd_818 : Cond.methodLink RL 80 yX5_undo ∈ am_T := am_T_in 818 (by decide +kernel) (by decide +kernel)
theorem wd_819 : Cond.instanceMethod yX5_undo ∈ am_T := am_T_in 819 (by decide +kernel) (by decide +kernel)
theorem wd_820 : Cond.selects RX5 yX5_undo yX5_undo ∈ am_T := am_T_in 820 (by decide +kernel) (by decide +kernel)
theorem q_L_law_80 : am_qV mL_law 80 mX5_undo 0 := ⟨cb_L_law_X5_undo 80, wd_818, wd_819, wd_820⟩
theorem pd_X4_log : (parseMethodDescriptor yX4_log.desc).map (fun d => d.parameters.length) = some 1 := by decide +kernel
theorem wd_358 : Cond.code yX4_log cX4_log 2 (some .int) ∈ am_T := am_T_in 358 (by decide +kernel) (by decide +kernel)
theorem cb_L_law_X4_log (i : Nat) : am_cb mL_law i mX4_log 1 := ⟨wd_358, wd_55, ⟨pl_X4.1, pl_X4.2, pd_X4_log⟩, Nat.le_of_ble_eq_true rfl, Nat.le_of_ble_eq_true rfl⟩
theorem wd_355 : Cond.methodLink RL 81 yX4_log ∈ am_T := am_T_in 355 (by decide +kernel) (by decide +kernel)
theorem wd_356 : Cond.instanceMethod yX4_log ∈ am_T := am_T_in 356 (by decide +kernel) (by decide +kernel)
theorem wd_357 : Cond.selects RX4 yX4_log yX4_log ∈ am_T := am_T_in 357 (by decide +kernel) (by decide +kernel)
theorem q_L_law_81 : am_qV mL_law 81 mX4_log 1 := ⟨cb_L_law_X4_log 81, wd_355, wd_356, wd_357⟩
theorem pd_X5_log : (parseMethodDescriptor yX5_log.desc).map (fun d => d.parameters.length) = some 1 := by decide +kernel
theorem wd_825 : Cond.code yX5_log cX5_log 2 (some .int) ∈ am_T := am_T_in 825 (by decide +kernel) (by decide +kernel)
theorem cb_L_law_X5_log (i : Nat) : am_cb mL_law i mX5_log 1 := ⟨wd_825, wd_58, ⟨pl_X5.1, pl_X5.2, pd_X5_log⟩, Nat.le_of_ble_eq_true rfl, Nat.le_of_ble_eq_true rfl⟩
theorem wd_822 : Cond.methodLink RL 84 yX5_log ∈ am_T := am_T_in 822 (by decide +kernel) (by decide +kernel)
theorem wd_823 : Cond.instanceMethod yX5_log ∈ am_T := am_T_in 823 (by decide +kernel) (by decide +kernel)
theorem wd_824 : Cond.selects RX5 yX5_log yX5_log ∈ am_T := am_T_in 824 (by decide +kernel) (by decide +kernel)
theorem q_L_law_84 : am_qV mL_law 84 mX5_log 1 := ⟨cb_L_law_X5_log 84, wd_822, wd_823, wd_824⟩
theorem pd_X4_fewestTurns : (parseMethodDescriptor yX4_fewestTurns.desc).map (fun d => d.parameters.length) = some 2 := by decide +kernel
theorem wd_363 : Cond.code yX4_fewestTurns cX4_fewestTurns 6 (some .int) ∈ am_T := am_T_in 363 (by decide +kernel) (by decide +kernel)
theorem cb_L_law_X4_fewestTurns (i : Nat) : am_cb mL_law i mX4_fewestTurns 2 := ⟨wd_363, wd_55, ⟨pl_X4.1, pl_X4.2, pd_X4_fewestTurns⟩, Nat.le_of_ble_eq_true rfl, Nat.le_of_ble_eq_true rfl⟩
theorem wd_360 : Cond.methodLink RL 85 yX4_fewestTurns ∈ am_T := am_T_in 360 (by decide +kernel) (by decide +kernel)
theorem wd_361 : Cond.instanceMethod yX4_fewestTurns ∈ am_T := am_T_in 361 (by decide +kernel) (by decide +kernel)
theorem wd_362 : Cond.selects RX4 yX4_fewestTurns yX4_fewestTurns ∈ am_T := am_T_in 362 (by decide +kernel) (by decide +kernel)
theorem q_L_law_85 : am_qV mL_law 85 mX4_fewestTurns 2 := ⟨cb_L_law_X4_fewestTurns 85, wd_360, wd_361, wd_362⟩
theorem pd_X5_fewestTurns : (parseMethodDescriptor yX5_fewestTurns.desc).map (fun d => d.parameters.length) = some 2 := by decide +kernel
theorem wd_829 : Cond.code yX5_fewestTurns cX5_fewestTurns 5 (some .int) ∈ am_T := am_T_in 829 (by decide +kernel) (by decide +kernel)
theorem cb_L_law_X5_fewestTurns (i : Nat) : am_cb mL_law i mX5_fewestTurns 2 := ⟨wd_829, wd_58, ⟨pl_X5.1, pl_X5.2, pd_X5_fewestTurns⟩, Nat.le_of_ble_eq_true rfl, Nat.le_of_ble_eq_true rfl⟩
theorem wd_826 : Cond.methodLink RL 88 yX5_fewestTurns ∈ am_T := am_T_in 826 (by decide +kernel) (by decide +kernel)
theorem wd_827 : Cond.instanceMethod yX5_fewestTurns ∈ am_T := am_T_in 827 (by decide +kernel) (by decide +kernel)
theorem wd_828 : Cond.selects RX5 yX5_fewestTurns yX5_fewestTurns ∈ am_T := am_T_in 828 (by decide +kernel) (by decide +kernel)
theorem q_L_law_88 : am_qV mL_law 88 mX5_fewestTurns 2 := ⟨cb_L_law_X5_fewestTurns 88, wd_826, wd_827, wd_828⟩
theorem pd_X4_plan : (parseMethodDescriptor yX4_plan.desc).map (fun d => d.parameters.length) = some 3 := by decide +kernel
theorem wd_568 : Cond.code yX4_plan cX4_plan 7 (some .int) ∈ am_T := am_T_in 568 (by decide +kernel) (by decide +kernel)
theorem cb_L_law_X4_plan (i : Nat) : am_cb mL_law i mX4_plan 3 := ⟨wd_568, wd_55, ⟨pl_X4.1, pl_X4.2, pd_X4_plan⟩, Nat.le_of_ble_eq_true rfl, Nat.le_of_ble_eq_true rfl⟩
theorem wd_565 : Cond.methodLink RL 89 yX4_plan ∈ am_T := am_T_in 565 (by decide +kernel) (by decide +kernel)
theorem wd_566 : Cond.instanceMethod yX4_plan ∈ am_T := am_T_in 566 (by decide +kernel) (by decide +kernel)
theorem wd_567 : Cond.selects RX4 yX4_plan yX4_plan ∈ am_T := am_T_in 567 (by decide +kernel) (by decide +kernel)
theorem q_L_law_89 : am_qV mL_law 89 mX4_plan 3 := ⟨cb_L_law_X4_plan 89, wd_565, wd_566, wd_567⟩
theorem pd_X5_plan : (parseMethodDescriptor yX5_plan.desc).map (fun d => d.parameters.length) = some 3 := by decide +kernel
theorem wd_909 : Cond.code yX5_plan cX5_plan 8 (some .int) ∈ am_T := am_T_in 909 (by decide +kernel) (by decide +kernel)
theorem cb_L_law_X5_plan (i : Nat) : am_cb mL_law i mX5_plan 3 := ⟨wd_909, wd_58, ⟨pl_X5.1, pl_X5.2, pd_X5_plan⟩, Nat.le_of_ble_eq_true rfl, Nat.le_of_ble_eq_true rfl⟩
theorem wd_906 : Cond.methodLink RL 93 yX5_plan ∈ am_T := am_T_in 906 (by decide +kernel) (by decide +kernel)
theorem wd_907 : Cond.instanceMethod yX5_plan ∈ am_T := am_T_in 907 (by decide +kernel) (by decide +kernel)
theorem wd_908 : Cond.selects RX5 yX5_plan yX5_plan ∈ am_T := am_T_in 908 (by decide +kernel) (by decide +kernel)
theorem q_L_law_93 : am_qV mL_law 93 mX5_plan 3 := ⟨cb_L_law_X5_plan 93, wd_906, wd_907, wd_908⟩
theorem pd_X4_save : (parseMethodDescriptor yX4_save.desc).map (fun d => d.parameters.length) = some 1 := by decide +kernel
theorem wd_580 : Cond.code yX4_save cX4_save 3 (some .int) ∈ am_T := am_T_in 580 (by decide +kernel) (by decide +kernel)
theorem cb_L_law_X4_save (i : Nat) : am_cb mL_law i mX4_save 1 := ⟨wd_580, wd_55, ⟨pl_X4.1, pl_X4.2, pd_X4_save⟩, Nat.le_of_ble_eq_true rfl, Nat.le_of_ble_eq_true rfl⟩
theorem wd_577 : Cond.methodLink RL 94 yX4_save ∈ am_T := am_T_in 577 (by decide +kernel) (by decide +kernel)
theorem wd_578 : Cond.instanceMethod yX4_save ∈ am_T := am_T_in 578 (by decide +kernel) (by decide +kernel)
theorem wd_579 : Cond.selects RX4 yX4_save yX4_save ∈ am_T := am_T_in 579 (by decide +kernel) (by decide +kernel)
theorem q_L_law_94 : am_qV mL_law 94 mX4_save 1 := ⟨cb_L_law_X4_save 94, wd_577, wd_578, wd_579⟩
theorem pd_X5_save : (parseMethodDescriptor yX5_save.desc).map (fun d => d.parameters.length) = some 1 := by decide +kernel
theorem wd_917 : Cond.code yX5_save cX5_save 3 (some .int) ∈ am_T := am_T_in 917 (by decide +kernel) (by decide +kernel)
theorem cb_L_law_X5_save (i : Nat) : am_cb mL_law i mX5_save 1 := ⟨wd_917, wd_58, ⟨pl_X5.1, pl_X5.2, pd_X5_save⟩, Nat.le_of_ble_eq_true rfl, Nat.le_of_ble_eq_true rfl⟩
theorem wd_914 : Cond.methodLink RL 97 yX5_save ∈ am_T := am_T_in 914 (by decide +kernel) (by decide +kernel)
theorem wd_915 : Cond.instanceMethod yX5_save ∈ am_T := am_T_in 915 (by decide +kernel) (by decide +kernel)
theorem wd_916 : Cond.selects RX5 yX5_save yX5_save ∈ am_T := am_T_in 916 (by decide +kernel) (by decide +kernel)
theorem q_L_law_97 : am_qV mL_law 97 mX5_save 1 := ⟨cb_L_law_X5_save 97, wd_914, wd_915, wd_916⟩
theorem pd_X4_restore : (parseMethodDescriptor yX4_restore.desc).map (fun d => d.parameters.length) = some 1 := by decide +kernel
theorem wd_588 : Cond.code yX4_restore cX4_restore 3 (some .int) ∈ am_T := am_T_in 588 (by decide +kernel) (by decide +kernel)
theorem cb_L_law_X4_restore (i : Nat) : am_cb mL_law i mX4_restore 1 := ⟨wd_588, wd_55, ⟨pl_X4.1, pl_X4.2, pd_X4_restore⟩, Nat.le_of_ble_eq_true rfl, Nat.le_of_ble_eq_true rfl⟩
theorem wd_585 : Cond.methodLink RL 98 yX4_restore ∈ am_T := am_T_in 585 (by decide +kernel) (by decide +kernel)
theorem wd_586 : Cond.instanceMethod yX4_restore ∈ am_T := am_T_in 586 (by decide +kernel) (by decide +kernel)
theorem wd_587 : Cond.selects RX4 yX4_restore yX4_restore ∈ am_T := am_T_in 587 (by decide +kernel) (by decide +kernel)
theorem q_L_law_98 : am_qV mL_law 98 mX4_restore 1 := ⟨cb_L_law_X4_restore 98, wd_585, wd_586, wd_587⟩
theorem pd_X5_restore : (parseMethodDescriptor yX5_restore.desc).map (fun d => d.parameters.length) = some 1 := by decide +kernel
theorem wd_921 : Cond.code yX5_restore cX5_restore 3 (some .int) ∈ am_T := am_T_in 921 (by decide +kernel) (by decide +kernel)
theorem cb_L_law_X5_restore (i : Nat) : am_cb mL_law i mX5_restore 1 := ⟨wd_921, wd_58, ⟨pl_X5.1, pl_X5.2, pd_X5_restore⟩, Nat.le_of_ble_eq_true rfl, Nat.le_of_ble_eq_true rfl⟩
theorem wd_918 : Cond.methodLink RL 101 yX5_restore ∈ am_T := am_T_in 918 (by decide +kernel) (by decide +kernel)
theorem wd_919 : Cond.instanceMethod yX5_restore ∈ am_T := am_T_in 919 (by decide +kernel) (by decide +kernel)
theorem wd_920 : Cond.selects RX5 yX5_restore yX5_restore ∈ am_T := am_T_in 920 (by decide +kernel) (by decide +kernel)
theorem q_L_law_101 : am_qV mL_law 101 mX5_restore 1 := ⟨cb_L_law_X5_restore 101, wd_918, wd_919, wd_920⟩
theorem wd_65 : Cond.classLink RL 7 RX4 ∈ am_T := am_T_in 65 (by decide +kernel) (by decide +kernel)
theorem wd_66 : Cond.instantiable RX4 5 ∈ am_T := am_T_in 66 (by decide +kernel) (by decide +kernel)
theorem pd_X4_init : (parseMethodDescriptor yX4_init.desc).map (fun d => d.parameters.length) = some 0 := by decide +kernel
theorem wd_69 : Cond.code yX4_init cX4_init 1 none ∈ am_T := am_T_in 69 (by decide +kernel) (by decide +kernel)
theorem cb_L_law_X4_init (i : Nat) : am_cb mL_law i mX4_init 0 := ⟨wd_69, wd_55, ⟨pl_X4.1, pl_X4.2, pd_X4_init⟩, Nat.le_of_ble_eq_true rfl, Nat.le_of_ble_eq_true rfl⟩
theorem wd_67 : Cond.methodLink RL 9 yX4_init ∈ am_T := am_T_in 67 (by decide +kernel) (by decide +kernel)
theorem wd_68 : Cond.instanceMethod yX4_init ∈ am_T := am_T_in 68 (by decide +kernel) (by decide +kernel)
theorem q_L_law_9 : am_qI mL_law 9 mX4_init 0 := ⟨cb_L_law_X4_init 9, wd_67, wd_68⟩
theorem wd_589 : Cond.classLink RL 10 RX5 ∈ am_T := am_T_in 589 (by decide +kernel) (by decide +kernel)
theorem wd_590 : Cond.instantiable RX5 32 ∈ am_T := am_T_in 590 (by decide +kernel) (by decide +kernel)
theorem pd_X5_init : (parseMethodDescriptor yX5_init.desc).map (fun d => d.parameters.length) = some 0 := by decide +kernel
theorem wd_593 : Cond.code yX5_init cX5_init 1 none ∈ am_T := am_T_in 593 (by decide +kernel) (by decide +kernel)
theorem cb_L_law_X5_init (i : Nat) : am_cb mL_law i mX5_init 0 := ⟨wd_593, wd_58, ⟨pl_X5.1, pl_X5.2, pd_X5_init⟩, Nat.le_of_ble_eq_true rfl, Nat.le_of_ble_eq_true rfl⟩
theorem wd_591 : Cond.methodLink RL 12 yX5_init ∈ am_T := am_T_in 591 (by decide +kernel) (by decide +kernel)
theorem wd_592 : Cond.instanceMethod yX5_init ∈ am_T := am_T_in 592 (by decide +kernel) (by decide +kernel)
theorem q_L_law_12 : am_qI mL_law 12 mX5_init 0 := ⟨cb_L_law_X5_init 12, wd_591, wd_592⟩
theorem dL_law_0 : decode cL_law 0 = .ok (.new 7, 3) := by decide +kernel
theorem dL_law_3 : decode cL_law 3 = .ok (.dup, 1) := by decide +kernel
theorem dL_law_4 : decode cL_law 4 = .ok (.invokespecial 9, 3) := by decide +kernel
theorem dL_law_7 : decode cL_law 7 = .ok (.astore_n 1, 1) := by decide +kernel
theorem dL_law_8 : decode cL_law 8 = .ok (.new 10, 3) := by decide +kernel
theorem dL_law_11 : decode cL_law 11 = .ok (.dup, 1) := by decide +kernel
theorem dL_law_12 : decode cL_law 12 = .ok (.invokespecial 12, 3) := by decide +kernel
theorem dL_law_15 : decode cL_law 15 = .ok (.astore_n 2, 1) := by decide +kernel
theorem dL_law_16 : decode cL_law 16 = .ok (.iconst 0, 1) := by decide +kernel
theorem dL_law_17 : decode cL_law 17 = .ok (.istore_n 3, 1) := by decide +kernel
theorem dL_law_18 : decode cL_law 18 = .ok (.iload_n 3, 1) := by decide +kernel
theorem dL_law_19 : decode cL_law 19 = .ok (.aload_n 0, 1) := by decide +kernel
theorem dL_law_20 : decode cL_law 20 = .ok (.arraylength, 1) := by decide +kernel
theorem dL_law_21 : decode cL_law 21 = .ok (.iconst 4, 1) := by decide +kernel
theorem dL_law_22 : decode cL_law 22 = .ok (.isub, 1) := by decide +kernel
theorem dL_law_23 : decode cL_law 23 = .ok (.if_icmp .gt 664, 3) := by decide +kernel
theorem dL_law_26 : decode cL_law 26 = .ok (.aload_n 0, 1) := by decide +kernel
theorem dL_law_27 : decode cL_law 27 = .ok (.iload_n 3, 1) := by decide +kernel
theorem dL_law_28 : decode cL_law 28 = .ok (.iaload, 1) := by decide +kernel
theorem dL_law_29 : decode cL_law 29 = .ok (.bipush 31, 2) := by decide +kernel
theorem dL_law_31 : decode cL_law 31 = .ok (.iand, 1) := by decide +kernel
theorem dL_law_32 : decode cL_law 32 = .ok (.tableswitch 649 0 20 #[100, 133, 156, 189, 202, 251, 264, 287, 310, 343, 366, 389, 412, 445, 478, 491, 504, 527, 560, 603, 626], 100) := by decide +kernel
theorem dL_law_132 : decode cL_law 132 = .ok (.aload_n 1, 1) := by decide +kernel
theorem dL_law_133 : decode cL_law 133 = .ok (.aload_n 0, 1) := by decide +kernel
theorem dL_law_134 : decode cL_law 134 = .ok (.iload_n 3, 1) := by decide +kernel
theorem dL_law_135 : decode cL_law 135 = .ok (.iconst 1, 1) := by decide +kernel
theorem dL_law_136 : decode cL_law 136 = .ok (.iadd, 1) := by decide +kernel
theorem dL_law_137 : decode cL_law 137 = .ok (.iaload, 1) := by decide +kernel
theorem dL_law_138 : decode cL_law 138 = .ok (.aload_n 0, 1) := by decide +kernel
theorem dL_law_139 : decode cL_law 139 = .ok (.iload_n 3, 1) := by decide +kernel
theorem dL_law_140 : decode cL_law 140 = .ok (.iconst 2, 1) := by decide +kernel
theorem dL_law_141 : decode cL_law 141 = .ok (.iadd, 1) := by decide +kernel
theorem dL_law_142 : decode cL_law 142 = .ok (.iaload, 1) := by decide +kernel
theorem dL_law_143 : decode cL_law 143 = .ok (.invokevirtual 13, 3) := by decide +kernel
theorem dL_law_146 : decode cL_law 146 = .ok (.aload_n 2, 1) := by decide +kernel
theorem dL_law_147 : decode cL_law 147 = .ok (.aload_n 0, 1) := by decide +kernel
theorem dL_law_148 : decode cL_law 148 = .ok (.iload_n 3, 1) := by decide +kernel
theorem dL_law_149 : decode cL_law 149 = .ok (.iconst 1, 1) := by decide +kernel
theorem dL_law_150 : decode cL_law 150 = .ok (.iadd, 1) := by decide +kernel
theorem dL_law_151 : decode cL_law 151 = .ok (.iaload, 1) := by decide +kernel
theorem dL_law_152 : decode cL_law 152 = .ok (.aload_n 0, 1) := by decide +kernel
theorem dL_law_153 : decode cL_law 153 = .ok (.iload_n 3, 1) := by decide +kernel
theorem dL_law_154 : decode cL_law 154 = .ok (.iconst 2, 1) := by decide +kernel
theorem dL_law_155 : decode cL_law 155 = .ok (.iadd, 1) := by decide +kernel
theorem dL_law_156 : decode cL_law 156 = .ok (.iaload, 1) := by decide +kernel
theorem dL_law_157 : decode cL_law 157 = .ok (.invokevirtual 17, 3) := by decide +kernel
theorem dL_law_160 : decode cL_law 160 = .ok (.if_icmp .eq 521, 3) := by decide +kernel
theorem dL_law_163 : decode cL_law 163 = .ok (.iconst 0, 1) := by decide +kernel
theorem dL_law_164 : decode cL_law 164 = .ok (.ireturn, 1) := by decide +kernel
theorem dL_law_165 : decode cL_law 165 = .ok (.aload_n 1, 1) := by decide +kernel
theorem dL_law_166 : decode cL_law 166 = .ok (.aload_n 0, 1) := by decide +kernel
theorem dL_law_167 : decode cL_law 167 = .ok (.iload_n 3, 1) := by decide +kernel
theorem dL_law_168 : decode cL_law 168 = .ok (.iconst 1, 1) := by decide +kernel
theorem dL_law_169 : decode cL_law 169 = .ok (.iadd, 1) := by decide +kernel
theorem dL_law_170 : decode cL_law 170 = .ok (.iaload, 1) := by decide +kernel
theorem dL_law_171 : decode cL_law 171 = .ok (.invokevirtual 18, 3) := by decide +kernel
theorem dL_law_174 : decode cL_law 174 = .ok (.aload_n 2, 1) := by decide +kernel
theorem dL_law_175 : decode cL_law 175 = .ok (.aload_n 0, 1) := by decide +kernel
theorem dL_law_176 : decode cL_law 176 = .ok (.iload_n 3, 1) := by decide +kernel
theorem dL_law_177 : decode cL_law 177 = .ok (.iconst 1, 1) := by decide +kernel
theorem dL_law_178 : decode cL_law 178 = .ok (.iadd, 1) := by decide +kernel
theorem dL_law_179 : decode cL_law 179 = .ok (.iaload, 1) := by decide +kernel
theorem dL_law_180 : decode cL_law 180 = .ok (.invokevirtual 22, 3) := by decide +kernel
theorem dL_law_183 : decode cL_law 183 = .ok (.if_icmp .eq 498, 3) := by decide +kernel
theorem dL_law_186 : decode cL_law 186 = .ok (.iconst 0, 1) := by decide +kernel
theorem dL_law_187 : decode cL_law 187 = .ok (.ireturn, 1) := by decide +kernel
theorem dL_law_188 : decode cL_law 188 = .ok (.aload_n 1, 1) := by decide +kernel
theorem dL_law_189 : decode cL_law 189 = .ok (.aload_n 0, 1) := by decide +kernel
theorem dL_law_190 : decode cL_law 190 = .ok (.iload_n 3, 1) := by decide +kernel
theorem dL_law_191 : decode cL_law 191 = .ok (.iconst 1, 1) := by decide +kernel
theorem dL_law_192 : decode cL_law 192 = .ok (.iadd, 1) := by decide +kernel
theorem dL_law_193 : decode cL_law 193 = .ok (.iaload, 1) := by decide +kernel
theorem dL_law_194 : decode cL_law 194 = .ok (.aload_n 0, 1) := by decide +kernel
theorem dL_law_195 : decode cL_law 195 = .ok (.iload_n 3, 1) := by decide +kernel
theorem dL_law_196 : decode cL_law 196 = .ok (.iconst 2, 1) := by decide +kernel
theorem dL_law_197 : decode cL_law 197 = .ok (.iadd, 1) := by decide +kernel
theorem dL_law_198 : decode cL_law 198 = .ok (.iaload, 1) := by decide +kernel
theorem dL_law_199 : decode cL_law 199 = .ok (.invokevirtual 23, 3) := by decide +kernel
theorem dL_law_202 : decode cL_law 202 = .ok (.aload_n 2, 1) := by decide +kernel
theorem dL_law_203 : decode cL_law 203 = .ok (.aload_n 0, 1) := by decide +kernel
theorem dL_law_204 : decode cL_law 204 = .ok (.iload_n 3, 1) := by decide +kernel
theorem dL_law_205 : decode cL_law 205 = .ok (.iconst 1, 1) := by decide +kernel
theorem dL_law_206 : decode cL_law 206 = .ok (.iadd, 1) := by decide +kernel
theorem dL_law_207 : decode cL_law 207 = .ok (.iaload, 1) := by decide +kernel
theorem dL_law_208 : decode cL_law 208 = .ok (.aload_n 0, 1) := by decide +kernel
theorem dL_law_209 : decode cL_law 209 = .ok (.iload_n 3, 1) := by decide +kernel
theorem dL_law_210 : decode cL_law 210 = .ok (.iconst 2, 1) := by decide +kernel
theorem dL_law_211 : decode cL_law 211 = .ok (.iadd, 1) := by decide +kernel
theorem dL_law_212 : decode cL_law 212 = .ok (.iaload, 1) := by decide +kernel
theorem dL_law_213 : decode cL_law 213 = .ok (.invokevirtual 26, 3) := by decide +kernel
theorem dL_law_216 : decode cL_law 216 = .ok (.if_icmp .eq 465, 3) := by decide +kernel
theorem dL_law_219 : decode cL_law 219 = .ok (.iconst 0, 1) := by decide +kernel
theorem dL_law_220 : decode cL_law 220 = .ok (.ireturn, 1) := by decide +kernel
theorem dL_law_221 : decode cL_law 221 = .ok (.aload_n 1, 1) := by decide +kernel
theorem dL_law_222 : decode cL_law 222 = .ok (.invokevirtual 27, 3) := by decide +kernel
theorem dL_law_225 : decode cL_law 225 = .ok (.aload_n 2, 1) := by decide +kernel
theorem dL_law_226 : decode cL_law 226 = .ok (.invokevirtual 31, 3) := by decide +kernel
theorem dL_law_229 : decode cL_law 229 = .ok (.if_icmp .eq 452, 3) := by decide +kernel
theorem dL_law_232 : decode cL_law 232 = .ok (.iconst 0, 1) := by decide +kernel
theorem dL_law_233 : decode cL_law 233 = .ok (.ireturn, 1) := by decide +kernel
theorem dL_law_234 : decode cL_law 234 = .ok (.aload_n 1, 1) := by decide +kernel
theorem dL_law_235 : decode cL_law 235 = .ok (.aload_n 0, 1) := by decide +kernel
theorem dL_law_236 : decode cL_law 236 = .ok (.iload_n 3, 1) := by decide +kernel
theorem dL_law_237 : decode cL_law 237 = .ok (.iconst 1, 1) := by decide +kernel
theorem dL_law_238 : decode cL_law 238 = .ok (.iadd, 1) := by decide +kernel
theorem dL_law_239 : decode cL_law 239 = .ok (.iaload, 1) := by decide +kernel
theorem dL_law_240 : decode cL_law 240 = .ok (.aload_n 0, 1) := by decide +kernel
theorem dL_law_241 : decode cL_law 241 = .ok (.iload_n 3, 1) := by decide +kernel
theorem dL_law_242 : decode cL_law 242 = .ok (.iconst 2, 1) := by decide +kernel
theorem dL_law_243 : decode cL_law 243 = .ok (.iadd, 1) := by decide +kernel
theorem dL_law_244 : decode cL_law 244 = .ok (.iaload, 1) := by decide +kernel
theorem dL_law_245 : decode cL_law 245 = .ok (.ifCond .eq 7, 3) := by decide +kernel
theorem dL_law_248 : decode cL_law 248 = .ok (.iconst 1, 1) := by decide +kernel
theorem dL_law_249 : decode cL_law 249 = .ok (.goto 4, 3) := by decide +kernel
theorem dL_law_252 : decode cL_law 252 = .ok (.iconst 0, 1) := by decide +kernel
theorem dL_law_253 : decode cL_law 253 = .ok (.invokevirtual 32, 3) := by decide +kernel
theorem dL_law_256 : decode cL_law 256 = .ok (.aload_n 2, 1) := by decide +kernel
theorem dL_law_257 : decode cL_law 257 = .ok (.aload_n 0, 1) := by decide +kernel
theorem dL_law_258 : decode cL_law 258 = .ok (.iload_n 3, 1) := by decide +kernel
theorem dL_law_259 : decode cL_law 259 = .ok (.iconst 1, 1) := by decide +kernel
theorem dL_law_260 : decode cL_law 260 = .ok (.iadd, 1) := by decide +kernel
theorem dL_law_261 : decode cL_law 261 = .ok (.iaload, 1) := by decide +kernel
theorem dL_law_262 : decode cL_law 262 = .ok (.aload_n 0, 1) := by decide +kernel
theorem dL_law_263 : decode cL_law 263 = .ok (.iload_n 3, 1) := by decide +kernel
theorem dL_law_264 : decode cL_law 264 = .ok (.iconst 2, 1) := by decide +kernel
theorem dL_law_265 : decode cL_law 265 = .ok (.iadd, 1) := by decide +kernel
theorem dL_law_266 : decode cL_law 266 = .ok (.iaload, 1) := by decide +kernel
theorem dL_law_267 : decode cL_law 267 = .ok (.ifCond .eq 7, 3) := by decide +kernel
theorem dL_law_270 : decode cL_law 270 = .ok (.iconst 1, 1) := by decide +kernel
theorem dL_law_271 : decode cL_law 271 = .ok (.goto 4, 3) := by decide +kernel
theorem dL_law_274 : decode cL_law 274 = .ok (.iconst 0, 1) := by decide +kernel
theorem dL_law_275 : decode cL_law 275 = .ok (.invokevirtual 36, 3) := by decide +kernel
theorem dL_law_278 : decode cL_law 278 = .ok (.if_icmp .eq 403, 3) := by decide +kernel
theorem dL_law_281 : decode cL_law 281 = .ok (.iconst 0, 1) := by decide +kernel
theorem dL_law_282 : decode cL_law 282 = .ok (.ireturn, 1) := by decide +kernel
theorem dL_law_283 : decode cL_law 283 = .ok (.aload_n 1, 1) := by decide +kernel
theorem dL_law_284 : decode cL_law 284 = .ok (.invokevirtual 37, 3) := by decide +kernel
theorem dL_law_287 : decode cL_law 287 = .ok (.aload_n 2, 1) := by decide +kernel
theorem dL_law_288 : decode cL_law 288 = .ok (.invokevirtual 40, 3) := by decide +kernel
theorem dL_law_291 : decode cL_law 291 = .ok (.if_icmp .eq 390, 3) := by decide +kernel
theorem dL_law_294 : decode cL_law 294 = .ok (.iconst 0, 1) := by decide +kernel
theorem dL_law_295 : decode cL_law 295 = .ok (.ireturn, 1) := by decide +kernel
theorem dL_law_296 : decode cL_law 296 = .ok (.aload_n 1, 1) := by decide +kernel
theorem dL_law_297 : decode cL_law 297 = .ok (.aload_n 0, 1) := by decide +kernel
theorem dL_law_298 : decode cL_law 298 = .ok (.iload_n 3, 1) := by decide +kernel
theorem dL_law_299 : decode cL_law 299 = .ok (.iconst 1, 1) := by decide +kernel
theorem dL_law_300 : decode cL_law 300 = .ok (.iadd, 1) := by decide +kernel
theorem dL_law_301 : decode cL_law 301 = .ok (.iaload, 1) := by decide +kernel
theorem dL_law_302 : decode cL_law 302 = .ok (.invokevirtual 41, 3) := by decide +kernel
theorem dL_law_305 : decode cL_law 305 = .ok (.aload_n 2, 1) := by decide +kernel
theorem dL_law_306 : decode cL_law 306 = .ok (.aload_n 0, 1) := by decide +kernel
theorem dL_law_307 : decode cL_law 307 = .ok (.iload_n 3, 1) := by decide +kernel
theorem dL_law_308 : decode cL_law 308 = .ok (.iconst 1, 1) := by decide +kernel
theorem dL_law_309 : decode cL_law 309 = .ok (.iadd, 1) := by decide +kernel
theorem dL_law_310 : decode cL_law 310 = .ok (.iaload, 1) := by decide +kernel
theorem dL_law_311 : decode cL_law 311 = .ok (.invokevirtual 44, 3) := by decide +kernel
theorem dL_law_314 : decode cL_law 314 = .ok (.if_icmp .eq 367, 3) := by decide +kernel
theorem dL_law_317 : decode cL_law 317 = .ok (.iconst 0, 1) := by decide +kernel
theorem dL_law_318 : decode cL_law 318 = .ok (.ireturn, 1) := by decide +kernel
theorem dL_law_319 : decode cL_law 319 = .ok (.aload_n 1, 1) := by decide +kernel
theorem dL_law_320 : decode cL_law 320 = .ok (.aload_n 0, 1) := by decide +kernel
theorem dL_law_321 : decode cL_law 321 = .ok (.iload_n 3, 1) := by decide +kernel
theorem dL_law_322 : decode cL_law 322 = .ok (.iconst 1, 1) := by decide +kernel
theorem dL_law_323 : decode cL_law 323 = .ok (.iadd, 1) := by decide +kernel
theorem dL_law_324 : decode cL_law 324 = .ok (.iaload, 1) := by decide +kernel
theorem dL_law_325 : decode cL_law 325 = .ok (.invokevirtual 45, 3) := by decide +kernel
theorem dL_law_328 : decode cL_law 328 = .ok (.aload_n 2, 1) := by decide +kernel
theorem dL_law_329 : decode cL_law 329 = .ok (.aload_n 0, 1) := by decide +kernel
theorem dL_law_330 : decode cL_law 330 = .ok (.iload_n 3, 1) := by decide +kernel
theorem dL_law_331 : decode cL_law 331 = .ok (.iconst 1, 1) := by decide +kernel
theorem dL_law_332 : decode cL_law 332 = .ok (.iadd, 1) := by decide +kernel
theorem dL_law_333 : decode cL_law 333 = .ok (.iaload, 1) := by decide +kernel
theorem dL_law_334 : decode cL_law 334 = .ok (.invokevirtual 48, 3) := by decide +kernel
theorem dL_law_337 : decode cL_law 337 = .ok (.if_icmp .eq 344, 3) := by decide +kernel
theorem dL_law_340 : decode cL_law 340 = .ok (.iconst 0, 1) := by decide +kernel
theorem dL_law_341 : decode cL_law 341 = .ok (.ireturn, 1) := by decide +kernel
theorem dL_law_342 : decode cL_law 342 = .ok (.aload_n 1, 1) := by decide +kernel
theorem dL_law_343 : decode cL_law 343 = .ok (.aload_n 0, 1) := by decide +kernel
theorem dL_law_344 : decode cL_law 344 = .ok (.iload_n 3, 1) := by decide +kernel
theorem dL_law_345 : decode cL_law 345 = .ok (.iconst 1, 1) := by decide +kernel
theorem dL_law_346 : decode cL_law 346 = .ok (.iadd, 1) := by decide +kernel
theorem dL_law_347 : decode cL_law 347 = .ok (.iaload, 1) := by decide +kernel
theorem dL_law_348 : decode cL_law 348 = .ok (.aload_n 0, 1) := by decide +kernel
theorem dL_law_349 : decode cL_law 349 = .ok (.iload_n 3, 1) := by decide +kernel
theorem dL_law_350 : decode cL_law 350 = .ok (.iconst 2, 1) := by decide +kernel
theorem dL_law_351 : decode cL_law 351 = .ok (.iadd, 1) := by decide +kernel
theorem dL_law_352 : decode cL_law 352 = .ok (.iaload, 1) := by decide +kernel
theorem dL_law_353 : decode cL_law 353 = .ok (.invokevirtual 49, 3) := by decide +kernel
theorem dL_law_356 : decode cL_law 356 = .ok (.aload_n 2, 1) := by decide +kernel
theorem dL_law_357 : decode cL_law 357 = .ok (.aload_n 0, 1) := by decide +kernel
theorem dL_law_358 : decode cL_law 358 = .ok (.iload_n 3, 1) := by decide +kernel
theorem dL_law_359 : decode cL_law 359 = .ok (.iconst 1, 1) := by decide +kernel
theorem dL_law_360 : decode cL_law 360 = .ok (.iadd, 1) := by decide +kernel
theorem dL_law_361 : decode cL_law 361 = .ok (.iaload, 1) := by decide +kernel
theorem dL_law_362 : decode cL_law 362 = .ok (.aload_n 0, 1) := by decide +kernel
theorem dL_law_363 : decode cL_law 363 = .ok (.iload_n 3, 1) := by decide +kernel
theorem dL_law_364 : decode cL_law 364 = .ok (.iconst 2, 1) := by decide +kernel
theorem dL_law_365 : decode cL_law 365 = .ok (.iadd, 1) := by decide +kernel
theorem dL_law_366 : decode cL_law 366 = .ok (.iaload, 1) := by decide +kernel
theorem dL_law_367 : decode cL_law 367 = .ok (.invokevirtual 52, 3) := by decide +kernel
theorem dL_law_370 : decode cL_law 370 = .ok (.if_icmp .eq 311, 3) := by decide +kernel
theorem dL_law_373 : decode cL_law 373 = .ok (.iconst 0, 1) := by decide +kernel
theorem dL_law_374 : decode cL_law 374 = .ok (.ireturn, 1) := by decide +kernel
theorem dL_law_375 : decode cL_law 375 = .ok (.aload_n 1, 1) := by decide +kernel
theorem dL_law_376 : decode cL_law 376 = .ok (.aload_n 0, 1) := by decide +kernel
theorem dL_law_377 : decode cL_law 377 = .ok (.iload_n 3, 1) := by decide +kernel
theorem dL_law_378 : decode cL_law 378 = .ok (.iconst 1, 1) := by decide +kernel
theorem dL_law_379 : decode cL_law 379 = .ok (.iadd, 1) := by decide +kernel
theorem dL_law_380 : decode cL_law 380 = .ok (.iaload, 1) := by decide +kernel
theorem dL_law_381 : decode cL_law 381 = .ok (.invokevirtual 53, 3) := by decide +kernel
theorem dL_law_384 : decode cL_law 384 = .ok (.aload_n 2, 1) := by decide +kernel
theorem dL_law_385 : decode cL_law 385 = .ok (.aload_n 0, 1) := by decide +kernel
theorem dL_law_386 : decode cL_law 386 = .ok (.iload_n 3, 1) := by decide +kernel
theorem dL_law_387 : decode cL_law 387 = .ok (.iconst 1, 1) := by decide +kernel
theorem dL_law_388 : decode cL_law 388 = .ok (.iadd, 1) := by decide +kernel
theorem dL_law_389 : decode cL_law 389 = .ok (.iaload, 1) := by decide +kernel
theorem dL_law_390 : decode cL_law 390 = .ok (.invokevirtual 56, 3) := by decide +kernel
theorem dL_law_393 : decode cL_law 393 = .ok (.if_icmp .eq 288, 3) := by decide +kernel
theorem dL_law_396 : decode cL_law 396 = .ok (.iconst 0, 1) := by decide +kernel
theorem dL_law_397 : decode cL_law 397 = .ok (.ireturn, 1) := by decide +kernel
theorem dL_law_398 : decode cL_law 398 = .ok (.aload_n 1, 1) := by decide +kernel
theorem dL_law_399 : decode cL_law 399 = .ok (.aload_n 0, 1) := by decide +kernel
theorem dL_law_400 : decode cL_law 400 = .ok (.iload_n 3, 1) := by decide +kernel
theorem dL_law_401 : decode cL_law 401 = .ok (.iconst 1, 1) := by decide +kernel
theorem dL_law_402 : decode cL_law 402 = .ok (.iadd, 1) := by decide +kernel
theorem dL_law_403 : decode cL_law 403 = .ok (.iaload, 1) := by decide +kernel
theorem dL_law_404 : decode cL_law 404 = .ok (.invokevirtual 57, 3) := by decide +kernel
theorem dL_law_407 : decode cL_law 407 = .ok (.aload_n 2, 1) := by decide +kernel
theorem dL_law_408 : decode cL_law 408 = .ok (.aload_n 0, 1) := by decide +kernel
theorem dL_law_409 : decode cL_law 409 = .ok (.iload_n 3, 1) := by decide +kernel
theorem dL_law_410 : decode cL_law 410 = .ok (.iconst 1, 1) := by decide +kernel
theorem dL_law_411 : decode cL_law 411 = .ok (.iadd, 1) := by decide +kernel
theorem dL_law_412 : decode cL_law 412 = .ok (.iaload, 1) := by decide +kernel
theorem dL_law_413 : decode cL_law 413 = .ok (.invokevirtual 60, 3) := by decide +kernel
theorem dL_law_416 : decode cL_law 416 = .ok (.if_icmp .eq 265, 3) := by decide +kernel
theorem dL_law_419 : decode cL_law 419 = .ok (.iconst 0, 1) := by decide +kernel
theorem dL_law_420 : decode cL_law 420 = .ok (.ireturn, 1) := by decide +kernel
theorem dL_law_421 : decode cL_law 421 = .ok (.aload_n 1, 1) := by decide +kernel
theorem dL_law_422 : decode cL_law 422 = .ok (.aload_n 0, 1) := by decide +kernel
theorem dL_law_423 : decode cL_law 423 = .ok (.iload_n 3, 1) := by decide +kernel
theorem dL_law_424 : decode cL_law 424 = .ok (.iconst 1, 1) := by decide +kernel
theorem dL_law_425 : decode cL_law 425 = .ok (.iadd, 1) := by decide +kernel
theorem dL_law_426 : decode cL_law 426 = .ok (.iaload, 1) := by decide +kernel
theorem dL_law_427 : decode cL_law 427 = .ok (.invokevirtual 61, 3) := by decide +kernel
theorem dL_law_430 : decode cL_law 430 = .ok (.aload_n 2, 1) := by decide +kernel
theorem dL_law_431 : decode cL_law 431 = .ok (.aload_n 0, 1) := by decide +kernel
theorem dL_law_432 : decode cL_law 432 = .ok (.iload_n 3, 1) := by decide +kernel
theorem dL_law_433 : decode cL_law 433 = .ok (.iconst 1, 1) := by decide +kernel
theorem dL_law_434 : decode cL_law 434 = .ok (.iadd, 1) := by decide +kernel
theorem dL_law_435 : decode cL_law 435 = .ok (.iaload, 1) := by decide +kernel
theorem dL_law_436 : decode cL_law 436 = .ok (.invokevirtual 64, 3) := by decide +kernel
theorem dL_law_439 : decode cL_law 439 = .ok (.if_icmp .eq 242, 3) := by decide +kernel
theorem dL_law_442 : decode cL_law 442 = .ok (.iconst 0, 1) := by decide +kernel
theorem dL_law_443 : decode cL_law 443 = .ok (.ireturn, 1) := by decide +kernel
theorem dL_law_444 : decode cL_law 444 = .ok (.aload_n 1, 1) := by decide +kernel
theorem dL_law_445 : decode cL_law 445 = .ok (.aload_n 0, 1) := by decide +kernel
theorem dL_law_446 : decode cL_law 446 = .ok (.iload_n 3, 1) := by decide +kernel
theorem dL_law_447 : decode cL_law 447 = .ok (.iconst 1, 1) := by decide +kernel
theorem dL_law_448 : decode cL_law 448 = .ok (.iadd, 1) := by decide +kernel
theorem dL_law_449 : decode cL_law 449 = .ok (.iaload, 1) := by decide +kernel
theorem dL_law_450 : decode cL_law 450 = .ok (.aload_n 0, 1) := by decide +kernel
theorem dL_law_451 : decode cL_law 451 = .ok (.iload_n 3, 1) := by decide +kernel
theorem dL_law_452 : decode cL_law 452 = .ok (.iconst 2, 1) := by decide +kernel
theorem dL_law_453 : decode cL_law 453 = .ok (.iadd, 1) := by decide +kernel
theorem dL_law_454 : decode cL_law 454 = .ok (.iaload, 1) := by decide +kernel
theorem dL_law_455 : decode cL_law 455 = .ok (.invokevirtual 65, 3) := by decide +kernel
theorem dL_law_458 : decode cL_law 458 = .ok (.aload_n 2, 1) := by decide +kernel
theorem dL_law_459 : decode cL_law 459 = .ok (.aload_n 0, 1) := by decide +kernel
theorem dL_law_460 : decode cL_law 460 = .ok (.iload_n 3, 1) := by decide +kernel
theorem dL_law_461 : decode cL_law 461 = .ok (.iconst 1, 1) := by decide +kernel
theorem dL_law_462 : decode cL_law 462 = .ok (.iadd, 1) := by decide +kernel
theorem dL_law_463 : decode cL_law 463 = .ok (.iaload, 1) := by decide +kernel
theorem dL_law_464 : decode cL_law 464 = .ok (.aload_n 0, 1) := by decide +kernel
theorem dL_law_465 : decode cL_law 465 = .ok (.iload_n 3, 1) := by decide +kernel
theorem dL_law_466 : decode cL_law 466 = .ok (.iconst 2, 1) := by decide +kernel
theorem dL_law_467 : decode cL_law 467 = .ok (.iadd, 1) := by decide +kernel
theorem dL_law_468 : decode cL_law 468 = .ok (.iaload, 1) := by decide +kernel
theorem dL_law_469 : decode cL_law 469 = .ok (.invokevirtual 68, 3) := by decide +kernel
theorem dL_law_472 : decode cL_law 472 = .ok (.if_icmp .eq 209, 3) := by decide +kernel
theorem dL_law_475 : decode cL_law 475 = .ok (.iconst 0, 1) := by decide +kernel
theorem dL_law_476 : decode cL_law 476 = .ok (.ireturn, 1) := by decide +kernel
theorem dL_law_477 : decode cL_law 477 = .ok (.aload_n 1, 1) := by decide +kernel
theorem dL_law_478 : decode cL_law 478 = .ok (.aload_n 0, 1) := by decide +kernel
theorem dL_law_479 : decode cL_law 479 = .ok (.iload_n 3, 1) := by decide +kernel
theorem dL_law_480 : decode cL_law 480 = .ok (.iconst 1, 1) := by decide +kernel
theorem dL_law_481 : decode cL_law 481 = .ok (.iadd, 1) := by decide +kernel
theorem dL_law_482 : decode cL_law 482 = .ok (.iaload, 1) := by decide +kernel
theorem dL_law_483 : decode cL_law 483 = .ok (.aload_n 0, 1) := by decide +kernel
theorem dL_law_484 : decode cL_law 484 = .ok (.iload_n 3, 1) := by decide +kernel
theorem dL_law_485 : decode cL_law 485 = .ok (.iconst 2, 1) := by decide +kernel
theorem dL_law_486 : decode cL_law 486 = .ok (.iadd, 1) := by decide +kernel
theorem dL_law_487 : decode cL_law 487 = .ok (.iaload, 1) := by decide +kernel
theorem dL_law_488 : decode cL_law 488 = .ok (.invokevirtual 69, 3) := by decide +kernel
theorem dL_law_491 : decode cL_law 491 = .ok (.aload_n 2, 1) := by decide +kernel
theorem dL_law_492 : decode cL_law 492 = .ok (.aload_n 0, 1) := by decide +kernel
theorem dL_law_493 : decode cL_law 493 = .ok (.iload_n 3, 1) := by decide +kernel
theorem dL_law_494 : decode cL_law 494 = .ok (.iconst 1, 1) := by decide +kernel
theorem dL_law_495 : decode cL_law 495 = .ok (.iadd, 1) := by decide +kernel
theorem dL_law_496 : decode cL_law 496 = .ok (.iaload, 1) := by decide +kernel
theorem dL_law_497 : decode cL_law 497 = .ok (.aload_n 0, 1) := by decide +kernel
theorem dL_law_498 : decode cL_law 498 = .ok (.iload_n 3, 1) := by decide +kernel
theorem dL_law_499 : decode cL_law 499 = .ok (.iconst 2, 1) := by decide +kernel
theorem dL_law_500 : decode cL_law 500 = .ok (.iadd, 1) := by decide +kernel
theorem dL_law_501 : decode cL_law 501 = .ok (.iaload, 1) := by decide +kernel
theorem dL_law_502 : decode cL_law 502 = .ok (.invokevirtual 72, 3) := by decide +kernel
theorem dL_law_505 : decode cL_law 505 = .ok (.if_icmp .eq 176, 3) := by decide +kernel
theorem dL_law_508 : decode cL_law 508 = .ok (.iconst 0, 1) := by decide +kernel
theorem dL_law_509 : decode cL_law 509 = .ok (.ireturn, 1) := by decide +kernel
theorem dL_law_510 : decode cL_law 510 = .ok (.aload_n 1, 1) := by decide +kernel
theorem dL_law_511 : decode cL_law 511 = .ok (.invokevirtual 73, 3) := by decide +kernel
theorem dL_law_514 : decode cL_law 514 = .ok (.aload_n 2, 1) := by decide +kernel
theorem dL_law_515 : decode cL_law 515 = .ok (.invokevirtual 76, 3) := by decide +kernel
theorem dL_law_518 : decode cL_law 518 = .ok (.if_icmp .eq 163, 3) := by decide +kernel
theorem dL_law_521 : decode cL_law 521 = .ok (.iconst 0, 1) := by decide +kernel
theorem dL_law_522 : decode cL_law 522 = .ok (.ireturn, 1) := by decide +kernel
theorem dL_law_523 : decode cL_law 523 = .ok (.aload_n 1, 1) := by decide +kernel
theorem dL_law_524 : decode cL_law 524 = .ok (.invokevirtual 77, 3) := by decide +kernel
theorem dL_law_527 : decode cL_law 527 = .ok (.aload_n 2, 1) := by decide +kernel
theorem dL_law_528 : decode cL_law 528 = .ok (.invokevirtual 80, 3) := by decide +kernel
theorem dL_law_531 : decode cL_law 531 = .ok (.if_icmp .eq 150, 3) := by decide +kernel
theorem dL_law_534 : decode cL_law 534 = .ok (.iconst 0, 1) := by decide +kernel
theorem dL_law_535 : decode cL_law 535 = .ok (.ireturn, 1) := by decide +kernel
theorem dL_law_536 : decode cL_law 536 = .ok (.aload_n 1, 1) := by decide +kernel
theorem dL_law_537 : decode cL_law 537 = .ok (.aload_n 0, 1) := by decide +kernel
theorem dL_law_538 : decode cL_law 538 = .ok (.iload_n 3, 1) := by decide +kernel
theorem dL_law_539 : decode cL_law 539 = .ok (.iconst 1, 1) := by decide +kernel
theorem dL_law_540 : decode cL_law 540 = .ok (.iadd, 1) := by decide +kernel
theorem dL_law_541 : decode cL_law 541 = .ok (.iaload, 1) := by decide +kernel
theorem dL_law_542 : decode cL_law 542 = .ok (.invokevirtual 81, 3) := by decide +kernel
theorem dL_law_545 : decode cL_law 545 = .ok (.aload_n 2, 1) := by decide +kernel
theorem dL_law_546 : decode cL_law 546 = .ok (.aload_n 0, 1) := by decide +kernel
theorem dL_law_547 : decode cL_law 547 = .ok (.iload_n 3, 1) := by decide +kernel
theorem dL_law_548 : decode cL_law 548 = .ok (.iconst 1, 1) := by decide +kernel
theorem dL_law_549 : decode cL_law 549 = .ok (.iadd, 1) := by decide +kernel
theorem dL_law_550 : decode cL_law 550 = .ok (.iaload, 1) := by decide +kernel
theorem dL_law_551 : decode cL_law 551 = .ok (.invokevirtual 84, 3) := by decide +kernel
theorem dL_law_554 : decode cL_law 554 = .ok (.if_icmp .eq 127, 3) := by decide +kernel
theorem dL_law_557 : decode cL_law 557 = .ok (.iconst 0, 1) := by decide +kernel
theorem dL_law_558 : decode cL_law 558 = .ok (.ireturn, 1) := by decide +kernel
theorem dL_law_559 : decode cL_law 559 = .ok (.aload_n 1, 1) := by decide +kernel
theorem dL_law_560 : decode cL_law 560 = .ok (.aload_n 0, 1) := by decide +kernel
theorem dL_law_561 : decode cL_law 561 = .ok (.iload_n 3, 1) := by decide +kernel
theorem dL_law_562 : decode cL_law 562 = .ok (.iconst 1, 1) := by decide +kernel
theorem dL_law_563 : decode cL_law 563 = .ok (.iadd, 1) := by decide +kernel
theorem dL_law_564 : decode cL_law 564 = .ok (.iaload, 1) := by decide +kernel
theorem dL_law_565 : decode cL_law 565 = .ok (.aload_n 0, 1) := by decide +kernel
theorem dL_law_566 : decode cL_law 566 = .ok (.iload_n 3, 1) := by decide +kernel
theorem dL_law_567 : decode cL_law 567 = .ok (.iconst 2, 1) := by decide +kernel
theorem dL_law_568 : decode cL_law 568 = .ok (.iadd, 1) := by decide +kernel
theorem dL_law_569 : decode cL_law 569 = .ok (.iaload, 1) := by decide +kernel
theorem dL_law_570 : decode cL_law 570 = .ok (.invokevirtual 85, 3) := by decide +kernel
theorem dL_law_573 : decode cL_law 573 = .ok (.aload_n 2, 1) := by decide +kernel
theorem dL_law_574 : decode cL_law 574 = .ok (.aload_n 0, 1) := by decide +kernel
theorem dL_law_575 : decode cL_law 575 = .ok (.iload_n 3, 1) := by decide +kernel
theorem dL_law_576 : decode cL_law 576 = .ok (.iconst 1, 1) := by decide +kernel
theorem dL_law_577 : decode cL_law 577 = .ok (.iadd, 1) := by decide +kernel
theorem dL_law_578 : decode cL_law 578 = .ok (.iaload, 1) := by decide +kernel
theorem dL_law_579 : decode cL_law 579 = .ok (.aload_n 0, 1) := by decide +kernel
theorem dL_law_580 : decode cL_law 580 = .ok (.iload_n 3, 1) := by decide +kernel
theorem dL_law_581 : decode cL_law 581 = .ok (.iconst 2, 1) := by decide +kernel
theorem dL_law_582 : decode cL_law 582 = .ok (.iadd, 1) := by decide +kernel
theorem dL_law_583 : decode cL_law 583 = .ok (.iaload, 1) := by decide +kernel
theorem dL_law_584 : decode cL_law 584 = .ok (.invokevirtual 88, 3) := by decide +kernel
theorem dL_law_587 : decode cL_law 587 = .ok (.if_icmp .eq 94, 3) := by decide +kernel
theorem dL_law_590 : decode cL_law 590 = .ok (.iconst 0, 1) := by decide +kernel
theorem dL_law_591 : decode cL_law 591 = .ok (.ireturn, 1) := by decide +kernel
theorem dL_law_592 : decode cL_law 592 = .ok (.aload_n 1, 1) := by decide +kernel
theorem dL_law_593 : decode cL_law 593 = .ok (.aload_n 0, 1) := by decide +kernel
theorem dL_law_594 : decode cL_law 594 = .ok (.iload_n 3, 1) := by decide +kernel
theorem dL_law_595 : decode cL_law 595 = .ok (.iconst 1, 1) := by decide +kernel
theorem dL_law_596 : decode cL_law 596 = .ok (.iadd, 1) := by decide +kernel
theorem dL_law_597 : decode cL_law 597 = .ok (.iaload, 1) := by decide +kernel
theorem dL_law_598 : decode cL_law 598 = .ok (.aload_n 0, 1) := by decide +kernel
theorem dL_law_599 : decode cL_law 599 = .ok (.iload_n 3, 1) := by decide +kernel
theorem dL_law_600 : decode cL_law 600 = .ok (.iconst 2, 1) := by decide +kernel
theorem dL_law_601 : decode cL_law 601 = .ok (.iadd, 1) := by decide +kernel
theorem dL_law_602 : decode cL_law 602 = .ok (.iaload, 1) := by decide +kernel
theorem dL_law_603 : decode cL_law 603 = .ok (.aload_n 0, 1) := by decide +kernel
theorem dL_law_604 : decode cL_law 604 = .ok (.iload_n 3, 1) := by decide +kernel
theorem dL_law_605 : decode cL_law 605 = .ok (.iconst 3, 1) := by decide +kernel
theorem dL_law_606 : decode cL_law 606 = .ok (.iadd, 1) := by decide +kernel
theorem dL_law_607 : decode cL_law 607 = .ok (.iaload, 1) := by decide +kernel
theorem dL_law_608 : decode cL_law 608 = .ok (.invokevirtual 89, 3) := by decide +kernel
theorem dL_law_611 : decode cL_law 611 = .ok (.aload_n 2, 1) := by decide +kernel
theorem dL_law_612 : decode cL_law 612 = .ok (.aload_n 0, 1) := by decide +kernel
theorem dL_law_613 : decode cL_law 613 = .ok (.iload_n 3, 1) := by decide +kernel
theorem dL_law_614 : decode cL_law 614 = .ok (.iconst 1, 1) := by decide +kernel
theorem dL_law_615 : decode cL_law 615 = .ok (.iadd, 1) := by decide +kernel
theorem dL_law_616 : decode cL_law 616 = .ok (.iaload, 1) := by decide +kernel
theorem dL_law_617 : decode cL_law 617 = .ok (.aload_n 0, 1) := by decide +kernel
theorem dL_law_618 : decode cL_law 618 = .ok (.iload_n 3, 1) := by decide +kernel
theorem dL_law_619 : decode cL_law 619 = .ok (.iconst 2, 1) := by decide +kernel
theorem dL_law_620 : decode cL_law 620 = .ok (.iadd, 1) := by decide +kernel
theorem dL_law_621 : decode cL_law 621 = .ok (.iaload, 1) := by decide +kernel
theorem dL_law_622 : decode cL_law 622 = .ok (.aload_n 0, 1) := by decide +kernel
theorem dL_law_623 : decode cL_law 623 = .ok (.iload_n 3, 1) := by decide +kernel
theorem dL_law_624 : decode cL_law 624 = .ok (.iconst 3, 1) := by decide +kernel
theorem dL_law_625 : decode cL_law 625 = .ok (.iadd, 1) := by decide +kernel
theorem dL_law_626 : decode cL_law 626 = .ok (.iaload, 1) := by decide +kernel
theorem dL_law_627 : decode cL_law 627 = .ok (.invokevirtual 93, 3) := by decide +kernel
theorem dL_law_630 : decode cL_law 630 = .ok (.if_icmp .eq 51, 3) := by decide +kernel
theorem dL_law_633 : decode cL_law 633 = .ok (.iconst 0, 1) := by decide +kernel
theorem dL_law_634 : decode cL_law 634 = .ok (.ireturn, 1) := by decide +kernel
theorem dL_law_635 : decode cL_law 635 = .ok (.aload_n 1, 1) := by decide +kernel
theorem dL_law_636 : decode cL_law 636 = .ok (.aload_n 0, 1) := by decide +kernel
theorem dL_law_637 : decode cL_law 637 = .ok (.iload_n 3, 1) := by decide +kernel
theorem dL_law_638 : decode cL_law 638 = .ok (.iconst 1, 1) := by decide +kernel
theorem dL_law_639 : decode cL_law 639 = .ok (.iadd, 1) := by decide +kernel
theorem dL_law_640 : decode cL_law 640 = .ok (.iaload, 1) := by decide +kernel
theorem dL_law_641 : decode cL_law 641 = .ok (.invokevirtual 94, 3) := by decide +kernel
theorem dL_law_644 : decode cL_law 644 = .ok (.aload_n 2, 1) := by decide +kernel
theorem dL_law_645 : decode cL_law 645 = .ok (.aload_n 0, 1) := by decide +kernel
theorem dL_law_646 : decode cL_law 646 = .ok (.iload_n 3, 1) := by decide +kernel
theorem dL_law_647 : decode cL_law 647 = .ok (.iconst 1, 1) := by decide +kernel
theorem dL_law_648 : decode cL_law 648 = .ok (.iadd, 1) := by decide +kernel
theorem dL_law_649 : decode cL_law 649 = .ok (.iaload, 1) := by decide +kernel
theorem dL_law_650 : decode cL_law 650 = .ok (.invokevirtual 97, 3) := by decide +kernel
theorem dL_law_653 : decode cL_law 653 = .ok (.if_icmp .eq 28, 3) := by decide +kernel
theorem dL_law_656 : decode cL_law 656 = .ok (.iconst 0, 1) := by decide +kernel
theorem dL_law_657 : decode cL_law 657 = .ok (.ireturn, 1) := by decide +kernel
theorem dL_law_658 : decode cL_law 658 = .ok (.aload_n 1, 1) := by decide +kernel
theorem dL_law_659 : decode cL_law 659 = .ok (.aload_n 0, 1) := by decide +kernel
theorem dL_law_660 : decode cL_law 660 = .ok (.iload_n 3, 1) := by decide +kernel
theorem dL_law_661 : decode cL_law 661 = .ok (.iconst 1, 1) := by decide +kernel
theorem dL_law_662 : decode cL_law 662 = .ok (.iadd, 1) := by decide +kernel
theorem dL_law_663 : decode cL_law 663 = .ok (.iaload, 1) := by decide +kernel
theorem dL_law_664 : decode cL_law 664 = .ok (.invokevirtual 98, 3) := by decide +kernel
theorem dL_law_667 : decode cL_law 667 = .ok (.aload_n 2, 1) := by decide +kernel
theorem dL_law_668 : decode cL_law 668 = .ok (.aload_n 0, 1) := by decide +kernel
theorem dL_law_669 : decode cL_law 669 = .ok (.iload_n 3, 1) := by decide +kernel
theorem dL_law_670 : decode cL_law 670 = .ok (.iconst 1, 1) := by decide +kernel
theorem dL_law_671 : decode cL_law 671 = .ok (.iadd, 1) := by decide +kernel
theorem dL_law_672 : decode cL_law 672 = .ok (.iaload, 1) := by decide +kernel
theorem dL_law_673 : decode cL_law 673 = .ok (.invokevirtual 101, 3) := by decide +kernel
theorem dL_law_676 : decode cL_law 676 = .ok (.if_icmp .eq 5, 3) := by decide +kernel
theorem dL_law_679 : decode cL_law 679 = .ok (.iconst 0, 1) := by decide +kernel
theorem dL_law_680 : decode cL_law 680 = .ok (.ireturn, 1) := by decide +kernel
theorem dL_law_681 : decode cL_law 681 = .ok (.iinc 3 4, 3) := by decide +kernel
theorem dL_law_684 : decode cL_law 684 = .ok (.goto (-666), 3) := by decide +kernel
theorem dL_law_687 : decode cL_law 687 = .ok (.iconst 1, 1) := by decide +kernel
theorem dL_law_688 : decode cL_law 688 = .ok (.ireturn, 1) := by decide +kernel
