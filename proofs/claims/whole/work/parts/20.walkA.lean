def wJ6_bitCount_0f7a4 (a1 : Int32) (K : Int32 → Prop) : Prop := ∀ x1 : Int32, x1 = (a1 - ((am_ush a1 (1 : Int32)) &&& (1431655765 : Int32))) → ∀ x2 : Int32, x2 = ((x1 &&& (858993459 : Int32)) + ((am_ush x1 (2 : Int32)) &&& (858993459 : Int32))) → ∀ x3 : Int32, x3 = ((x2 + (am_ush x2 (4 : Int32))) &&& (252645135 : Int32)) → ∀ x4 : Int32, x4 = (x3 + (am_ush x3 (8 : Int32))) → ∀ x5 : Int32, x5 = (x4 + (am_ush x4 (16 : Int32))) → K (x5 &&& (63 : Int32))
set_option maxRecDepth 20000 in
theorem sJ6_bitCount_0f7a4 {a1 : Int32} {K : Int32 → Prop} (hw : wJ6_bitCount_0f7a4 a1 K) : am_Met mJ6_bitCount_0f7a4 [.int a1] [] 0 0 (zP [] K) := by
  unfold wJ6_bitCount_0f7a4 at hw
  refine am_Met.of2 (ls := [some (.int a1)]) pf_J6_bitCount_0f7a4 rfl rfl rfl rfl ?_
  refine am_iload_n dJ6_bitCount_0f7a4_0 rfl ?_
  refine am_iload_n dJ6_bitCount_0f7a4_1 rfl ?_
  refine am_iconst dJ6_bitCount_0f7a4_2 ic_1 ?_
  refine am_iushr' dJ6_bitCount_0f7a4_3 ?_
  refine am_ldcw dJ6_bitCount_0f7a4_4 wd_514 ?_
  refine am_iand dJ6_bitCount_0f7a4_7 ?_
  refine am_isub dJ6_bitCount_0f7a4_8 ?_
  refine am_top (fun x1 ex1 => ?_)
  have hw := hw x1 ex1
  refine am_istore_n' (ls' := [some (.int x1)]) dJ6_bitCount_0f7a4_9 rfl rfl rfl ?_
  refine am_iload_n dJ6_bitCount_0f7a4_10 rfl ?_
  refine am_ldcw dJ6_bitCount_0f7a4_11 wd_515 ?_
  refine am_iand dJ6_bitCount_0f7a4_14 ?_
  refine am_iload_n dJ6_bitCount_0f7a4_15 rfl ?_
  refine am_iconst dJ6_bitCount_0f7a4_16 ic_2 ?_
  refine am_iushr' dJ6_bitCount_0f7a4_17 ?_
  refine am_ldcw dJ6_bitCount_0f7a4_18 wd_515 ?_
  refine am_iand dJ6_bitCount_0f7a4_21 ?_
  refine am_iadd dJ6_bitCount_0f7a4_22 ?_
  refine am_top (fun x2 ex2 => ?_)
  have hw := hw x2 ex2
  refine am_istore_n' (ls' := [some (.int x2)]) dJ6_bitCount_0f7a4_23 rfl rfl rfl ?_
  refine am_iload_n dJ6_bitCount_0f7a4_24 rfl ?_
  refine am_iload_n dJ6_bitCount_0f7a4_25 rfl ?_
  refine am_iconst dJ6_bitCount_0f7a4_26 ic_4 ?_
  refine am_iushr' dJ6_bitCount_0f7a4_27 ?_
  refine am_iadd dJ6_bitCount_0f7a4_28 ?_
  refine am_ldcw dJ6_bitCount_0f7a4_29 wd_516 ?_
  refine am_iand dJ6_bitCount_0f7a4_32 ?_
  refine am_top (fun x3 ex3 => ?_)
  have hw := hw x3 ex3
  refine am_istore_n' (ls' := [some (.int x3)]) dJ6_bitCount_0f7a4_33 rfl rfl rfl ?_
  refine am_iload_n dJ6_bitCount_0f7a4_34 rfl ?_
  refine am_iload_n dJ6_bitCount_0f7a4_35 rfl ?_
  refine am_bipush dJ6_bitCount_0f7a4_36 bc_8 ?_
  refine am_iushr' dJ6_bitCount_0f7a4_38 ?_
  refine am_iadd dJ6_bitCount_0f7a4_39 ?_
  refine am_top (fun x4 ex4 => ?_)
  have hw := hw x4 ex4
  refine am_istore_n' (ls' := [some (.int x4)]) dJ6_bitCount_0f7a4_40 rfl rfl rfl ?_
  refine am_iload_n dJ6_bitCount_0f7a4_41 rfl ?_
  refine am_iload_n dJ6_bitCount_0f7a4_42 rfl ?_
  refine am_bipush dJ6_bitCount_0f7a4_43 bc_16 ?_
  refine am_iushr' dJ6_bitCount_0f7a4_45 ?_
  refine am_iadd dJ6_bitCount_0f7a4_46 ?_
  refine am_top (fun x5 ex5 => ?_)
  have hw := hw x5 ex5
  refine am_istore_n' (ls' := [some (.int x5)]) dJ6_bitCount_0f7a4_47 rfl rfl rfl ?_
  refine am_iload_n dJ6_bitCount_0f7a4_48 rfl ?_
  refine am_bipush dJ6_bitCount_0f7a4_49 bc_63 ?_
  refine am_iand dJ6_bitCount_0f7a4_51 ?_
  exact am_ireturn dJ6_bitCount_0f7a4_52 rfl ⟨_, rfl, rfl, hw⟩

def wJ9_floorMod_7cf53 (a1 a2 : Int32) (K : Int32 → Prop) : Prop := (¬ a2 = 0 ∧ ∀ x1 : Int32, x1 = (am_rem a1 a2) → ((0 ≤ (a1 ^^^ a2) → K x1) ∧ (¬ 0 ≤ (a1 ^^^ a2) → ((x1 = 0 → K x1) ∧ (¬ x1 = 0 → K (x1 + a2))))))
set_option maxRecDepth 20000 in
theorem sJ9_floorMod_7cf53 {a1 a2 : Int32} {K : Int32 → Prop} (hw : wJ9_floorMod_7cf53 a1 a2 K) : am_Met mJ9_floorMod_7cf53 [.int a1, .int a2] [] 0 0 (zP [] K) := by
  unfold wJ9_floorMod_7cf53 at hw
  refine am_Met.of2 (ls := [some (.int a1), some (.int a2), none]) pf_J9_floorMod_7cf53 rfl rfl rfl rfl ?_
  refine am_iload_n dJ9_floorMod_7cf53_0 rfl ?_
  refine am_iload_n dJ9_floorMod_7cf53_1 rfl ?_
  refine am_irem' dJ9_floorMod_7cf53_2 hw.1 ?_
  have hw := hw.2
  refine am_top (fun x1 ex1 => ?_)
  have hw := hw x1 ex1
  refine am_istore_n' (ls' := [some (.int a1), some (.int a2), some (.int x1)]) dJ9_floorMod_7cf53_3 rfl rfl rfl ?_
  refine am_iload_n dJ9_floorMod_7cf53_4 rfl ?_
  refine am_iload_n dJ9_floorMod_7cf53_5 rfl ?_
  refine am_ixor dJ9_floorMod_7cf53_6 ?_
  refine am_if_ge 18 dJ9_floorMod_7cf53_7 (by decide) (fun c2 => ?_) (fun c2 => ?_)
  · have hw := hw.1 c2
    refine am_iload_n dJ9_floorMod_7cf53_18 rfl ?_
    exact am_ireturn dJ9_floorMod_7cf53_19 rfl ⟨_, rfl, rfl, hw⟩
  · have hw := hw.2 c2
    refine am_iload_n dJ9_floorMod_7cf53_10 rfl ?_
    refine am_if_eq 18 dJ9_floorMod_7cf53_11 (by decide) (fun c3 => ?_) (fun c3 => ?_)
    · have hw := hw.1 c3
      refine am_iload_n dJ9_floorMod_7cf53_18 rfl ?_
      exact am_ireturn dJ9_floorMod_7cf53_19 rfl ⟨_, rfl, rfl, hw⟩
    · have hw := hw.2 c3
      refine am_iload_n dJ9_floorMod_7cf53_14 rfl ?_
      refine am_iload_n dJ9_floorMod_7cf53_15 rfl ?_
      refine am_iadd dJ9_floorMod_7cf53_16 ?_
      exact am_ireturn dJ9_floorMod_7cf53_17 rfl ⟨_, rfl, rfl, hw⟩

def wJ9_abs_0f7a4 (a1 : Int32) (K : Int32 → Prop) : Prop := ((0 ≤ a1 → K a1) ∧ (¬ 0 ≤ a1 → K (-a1)))
set_option maxRecDepth 20000 in
theorem sJ9_abs_0f7a4 {a1 : Int32} {K : Int32 → Prop} (hw : wJ9_abs_0f7a4 a1 K) : am_Met mJ9_abs_0f7a4 [.int a1] [] 0 0 (zP [] K) := by
  unfold wJ9_abs_0f7a4 at hw
  refine am_Met.of2 (ls := [some (.int a1)]) pf_J9_abs_0f7a4 rfl rfl rfl rfl ?_
  refine am_iload_n dJ9_abs_0f7a4_0 rfl ?_
  refine am_if_ge 9 dJ9_abs_0f7a4_1 (by decide) (fun c1 => ?_) (fun c1 => ?_)
  · have hw := hw.1 c1
    refine am_iload_n dJ9_abs_0f7a4_9 rfl ?_
    exact am_ireturn dJ9_abs_0f7a4_10 rfl ⟨_, rfl, rfl, hw⟩
  · have hw := hw.2 c1
    refine am_iload_n dJ9_abs_0f7a4_4 rfl ?_
    refine am_ineg dJ9_abs_0f7a4_5 ?_
    refine am_goto 10 dJ9_abs_0f7a4_6 (by decide) ?_
    exact am_ireturn dJ9_abs_0f7a4_10 rfl ⟨_, rfl, rfl, hw⟩

def wJ9_max_7cf53 (a1 a2 : Int32) (K : Int32 → Prop) : Prop := ((a1 < a2 → K a2) ∧ (¬ a1 < a2 → K a1))
set_option maxRecDepth 20000 in
theorem sJ9_max_7cf53 {a1 a2 : Int32} {K : Int32 → Prop} (hw : wJ9_max_7cf53 a1 a2 K) : am_Met mJ9_max_7cf53 [.int a1, .int a2] [] 0 0 (zP [] K) := by
  unfold wJ9_max_7cf53 at hw
  refine am_Met.of2 (ls := [some (.int a1), some (.int a2)]) pf_J9_max_7cf53 rfl rfl rfl rfl ?_
  refine am_iload_n dJ9_max_7cf53_0 rfl ?_
  refine am_iload_n dJ9_max_7cf53_1 rfl ?_
  refine am_icmp_lt 9 dJ9_max_7cf53_2 (by decide) (fun c1 => ?_) (fun c1 => ?_)
  · have hw := hw.1 c1
    refine am_iload_n dJ9_max_7cf53_9 rfl ?_
    exact am_ireturn dJ9_max_7cf53_10 rfl ⟨_, rfl, rfl, hw⟩
  · have hw := hw.2 c1
    refine am_iload_n dJ9_max_7cf53_5 rfl ?_
    refine am_goto 10 dJ9_max_7cf53_6 (by decide) ?_
    exact am_ireturn dJ9_max_7cf53_10 rfl ⟨_, rfl, rfl, hw⟩

def wJ9_min_7cf53 (a1 a2 : Int32) (K : Int32 → Prop) : Prop := ((a2 < a1 → K a2) ∧ (¬ a2 < a1 → K a1))
set_option maxRecDepth 20000 in
theorem sJ9_min_7cf53 {a1 a2 : Int32} {K : Int32 → Prop} (hw : wJ9_min_7cf53 a1 a2 K) : am_Met mJ9_min_7cf53 [.int a1, .int a2] [] 0 0 (zP [] K) := by
  unfold wJ9_min_7cf53 at hw
  refine am_Met.of2 (ls := [some (.int a1), some (.int a2)]) pf_J9_min_7cf53 rfl rfl rfl rfl ?_
  refine am_iload_n dJ9_min_7cf53_0 rfl ?_
  refine am_iload_n dJ9_min_7cf53_1 rfl ?_
  refine am_icmp_gt 9 dJ9_min_7cf53_2 (by decide) (fun c1 => ?_) (fun c1 => ?_)
  · have hw := hw.1 c1
    refine am_iload_n dJ9_min_7cf53_9 rfl ?_
    exact am_ireturn dJ9_min_7cf53_10 rfl ⟨_, rfl, rfl, hw⟩
  · have hw := hw.2 c1
    refine am_iload_n dJ9_min_7cf53_5 rfl ?_
    refine am_goto 10 dJ9_min_7cf53_6 (by decide) ?_
    exact am_ireturn dJ9_min_7cf53_10 rfl ⟨_, rfl, rfl, hw⟩

def wX4_isPosition (a1 : Int32) (K : Int32 → Prop) : Prop := ((a1 < 0 → K (0 : Int32)) ∧ (¬ a1 < 0 → (((12 : Int32) ≤ a1 → K (0 : Int32)) ∧ (¬ (12 : Int32) ≤ a1 → K (1 : Int32)))))
set_option maxRecDepth 20000 in
theorem sX4_isPosition {a1 : Int32} {K : Int32 → Prop} (hw : wX4_isPosition a1 K) : am_Met mX4_isPosition [.int a1] [] 0 0 (zP [] K) := by
  unfold wX4_isPosition at hw
  refine am_Met.of2 (ls := [some (.int a1)]) pf_X4_isPosition rfl rfl rfl rfl ?_
  refine am_iload_n dX4_isPosition_0 rfl ?_
  refine am_if_lt 14 dX4_isPosition_1 (by decide) (fun c1 => ?_) (fun c1 => ?_)
  · have hw := hw.1 c1
    refine am_iconst dX4_isPosition_14 ic_0 ?_
    exact am_zreturn dX4_isPosition_15 rfl rfl ⟨_, rfl, rfl, hw⟩
  · have hw := hw.2 c1
    refine am_iload_n dX4_isPosition_4 rfl ?_
    refine am_bipush dX4_isPosition_5 bc_12 ?_
    refine am_icmp_ge 14 dX4_isPosition_7 (by decide) (fun c2 => ?_) (fun c2 => ?_)
    · have hw := hw.1 c2
      refine am_iconst dX4_isPosition_14 ic_0 ?_
      exact am_zreturn dX4_isPosition_15 rfl rfl ⟨_, rfl, rfl, hw⟩
    · have hw := hw.2 c2
      refine am_iconst dX4_isPosition_10 ic_1 ?_
      refine am_goto 15 dX4_isPosition_11 (by decide) ?_
      exact am_zreturn dX4_isPosition_15 rfl rfl ⟨_, rfl, rfl, hw⟩

def wX4_isEnd (a1 : Int32) (K : Int32 → Prop) : Prop := ((a1 = 0 → K (1 : Int32)) ∧ (¬ a1 = 0 → ((a1 = (1 : Int32) → K (1 : Int32)) ∧ (¬ a1 = (1 : Int32) → K (0 : Int32)))))
set_option maxRecDepth 20000 in
theorem sX4_isEnd {a1 : Int32} {K : Int32 → Prop} (hw : wX4_isEnd a1 K) : am_Met mX4_isEnd [.int a1] [] 0 0 (zP [] K) := by
  unfold wX4_isEnd at hw
  refine am_Met.of2 (ls := [some (.int a1)]) pf_X4_isEnd rfl rfl rfl rfl ?_
  refine am_iload_n dX4_isEnd_0 rfl ?_
  refine am_if_eq 9 dX4_isEnd_1 (by decide) (fun c1 => ?_) (fun c1 => ?_)
  · have hw := hw.1 c1
    refine am_iconst dX4_isEnd_9 ic_1 ?_
    refine am_goto 14 dX4_isEnd_10 (by decide) ?_
    exact am_zreturn dX4_isEnd_14 rfl rfl ⟨_, rfl, rfl, hw⟩
  · have hw := hw.2 c1
    refine am_iload_n dX4_isEnd_4 rfl ?_
    refine am_iconst dX4_isEnd_5 ic_1 ?_
    refine am_icmp_ne 13 dX4_isEnd_6 (by decide) (fun c2 => ?_) (fun c2 => ?_)
    · have hw := hw.1 c2
      refine am_iconst dX4_isEnd_9 ic_1 ?_
      refine am_goto 14 dX4_isEnd_10 (by decide) ?_
      exact am_zreturn dX4_isEnd_14 rfl rfl ⟨_, rfl, rfl, hw⟩
    · have hw := hw.2 c2
      refine am_iconst dX4_isEnd_13 ic_0 ?_
      exact am_zreturn dX4_isEnd_14 rfl rfl ⟨_, rfl, rfl, hw⟩

def wX4_isSlot (a1 : Int32) (K : Int32 → Prop) : Prop := ((a1 < 0 → K (0 : Int32)) ∧ (¬ a1 < 0 → (((2 : Int32) ≤ a1 → K (0 : Int32)) ∧ (¬ (2 : Int32) ≤ a1 → K (1 : Int32)))))
set_option maxRecDepth 20000 in
theorem sX4_isSlot {a1 : Int32} {K : Int32 → Prop} (hw : wX4_isSlot a1 K) : am_Met mX4_isSlot [.int a1] [] 0 0 (zP [] K) := by
  unfold wX4_isSlot at hw
  refine am_Met.of2 (ls := [some (.int a1)]) pf_X4_isSlot rfl rfl rfl rfl ?_
  refine am_iload_n dX4_isSlot_0 rfl ?_
  refine am_if_lt 13 dX4_isSlot_1 (by decide) (fun c1 => ?_) (fun c1 => ?_)
  · have hw := hw.1 c1
    refine am_iconst dX4_isSlot_13 ic_0 ?_
    exact am_zreturn dX4_isSlot_14 rfl rfl ⟨_, rfl, rfl, hw⟩
  · have hw := hw.2 c1
    refine am_iload_n dX4_isSlot_4 rfl ?_
    refine am_iconst dX4_isSlot_5 ic_2 ?_
    refine am_icmp_ge 13 dX4_isSlot_6 (by decide) (fun c2 => ?_) (fun c2 => ?_)
    · have hw := hw.1 c2
      refine am_iconst dX4_isSlot_13 ic_0 ?_
      exact am_zreturn dX4_isSlot_14 rfl rfl ⟨_, rfl, rfl, hw⟩
    · have hw := hw.2 c2
      refine am_iconst dX4_isSlot_9 ic_1 ?_
      refine am_goto 14 dX4_isSlot_10 (by decide) ?_
      exact am_zreturn dX4_isSlot_14 rfl rfl ⟨_, rfl, rfl, hw⟩

def wX4_endOf (a1 : Int32) (K : Int32 → Prop) : Prop := ((a1 = (10 : Int32) → K (0 : Int32)) ∧ (¬ a1 = (10 : Int32) → ((a1 = (30 : Int32) → K (0 : Int32)) ∧ (¬ a1 = (30 : Int32) → K (1 : Int32)))))
set_option maxRecDepth 20000 in
theorem sX4_endOf {a1 : Int32} {K : Int32 → Prop} (hw : wX4_endOf a1 K) : am_Met mX4_endOf [.int a1] [] 0 0 (zP [] K) := by
  unfold wX4_endOf at hw
  refine am_Met.of2 (ls := [some (.int a1)]) pf_X4_endOf rfl rfl rfl rfl ?_
  refine am_iload_n dX4_endOf_0 rfl ?_
  refine am_bipush dX4_endOf_1 bc_10 ?_
  refine am_icmp_eq 12 dX4_endOf_3 (by decide) (fun c1 => ?_) (fun c1 => ?_)
  · have hw := hw.1 c1
    refine am_iconst dX4_endOf_12 ic_0 ?_
    refine am_goto 17 dX4_endOf_13 (by decide) ?_
    exact am_ireturn dX4_endOf_17 rfl ⟨_, rfl, rfl, hw⟩
  · have hw := hw.2 c1
    refine am_iload_n dX4_endOf_6 rfl ?_
    refine am_bipush dX4_endOf_7 bc_30 ?_
    refine am_icmp_ne 16 dX4_endOf_9 (by decide) (fun c2 => ?_) (fun c2 => ?_)
    · have hw := hw.1 c2
      refine am_iconst dX4_endOf_12 ic_0 ?_
      refine am_goto 17 dX4_endOf_13 (by decide) ?_
      exact am_ireturn dX4_endOf_17 rfl ⟨_, rfl, rfl, hw⟩
    · have hw := hw.2 c2
      refine am_iconst dX4_endOf_16 ic_1 ?_
      exact am_ireturn dX4_endOf_17 rfl ⟨_, rfl, rfl, hw⟩

def wX4_reverseOf (a1 : Int32) (K : Int32 → Prop) : Prop := ((a1 = 0 → K (1 : Int32)) ∧ (¬ a1 = 0 → ((a1 = (1 : Int32) → K (0 : Int32)) ∧ (¬ a1 = (1 : Int32) → (((30 : Int32) ≤ a1 → K (a1 - (20 : Int32))) ∧ (¬ (30 : Int32) ≤ a1 → K (a1 + (20 : Int32))))))))
set_option maxRecDepth 20000 in
theorem sX4_reverseOf {a1 : Int32} {K : Int32 → Prop} (hw : wX4_reverseOf a1 K) : am_Met mX4_reverseOf [.int a1] [] 0 0 (zP [] K) := by
  unfold wX4_reverseOf at hw
  refine am_Met.of2 (ls := [some (.int a1)]) pf_X4_reverseOf rfl rfl rfl rfl ?_
  refine am_iload_n dX4_reverseOf_0 rfl ?_
  refine am_if_ne 6 dX4_reverseOf_1 (by decide) (fun c1 => ?_) (fun c1 => ?_)
  · have hw := hw.1 c1
    refine am_iconst dX4_reverseOf_4 ic_1 ?_
    exact am_ireturn dX4_reverseOf_5 rfl ⟨_, rfl, rfl, hw⟩
  · have hw := hw.2 c1
    refine am_iload_n dX4_reverseOf_6 rfl ?_
    refine am_iconst dX4_reverseOf_7 ic_1 ?_
    refine am_icmp_ne 13 dX4_reverseOf_8 (by decide) (fun c2 => ?_) (fun c2 => ?_)
    · have hw := hw.1 c2
      refine am_iconst dX4_reverseOf_11 ic_0 ?_
      exact am_ireturn dX4_reverseOf_12 rfl ⟨_, rfl, rfl, hw⟩
    · have hw := hw.2 c2
      refine am_iload_n dX4_reverseOf_13 rfl ?_
      refine am_bipush dX4_reverseOf_14 bc_30 ?_
      refine am_icmp_ge 26 dX4_reverseOf_16 (by decide) (fun c3 => ?_) (fun c3 => ?_)
      · have hw := hw.1 c3
        refine am_iload_n dX4_reverseOf_26 rfl ?_
        refine am_bipush dX4_reverseOf_27 bc_20 ?_
        refine am_isub dX4_reverseOf_29 ?_
        exact am_ireturn dX4_reverseOf_30 rfl ⟨_, rfl, rfl, hw⟩
      · have hw := hw.2 c3
        refine am_iload_n dX4_reverseOf_19 rfl ?_
        refine am_bipush dX4_reverseOf_20 bc_20 ?_
        refine am_iadd dX4_reverseOf_22 ?_
        refine am_goto 30 dX4_reverseOf_23 (by decide) ?_
        exact am_ireturn dX4_reverseOf_30 rfl ⟨_, rfl, rfl, hw⟩

def jnX0_append_43 (K : Mu → Prop) (v1 : Int32) (m0 : Mu) : Prop := (((m0 2 1) < 0 → K m0) ∧ (¬ (m0 2 1) < 0 → (vp_in (m0 2 1) 40 ∧ ∀ m3 : Mu, m3 = mu_up m0 0 ((m0 2 1)).toNatClampNeg v1 → ∀ m4 : Mu, m4 = mu_up m3 2 1 ((m3 2 1) + (1 : Int32)) → K m4)))
set_option maxRecDepth 20000 in
theorem sjnX0_append_43 {m0 : Mu} {K : Mu → Prop} {v1 : Int32} (hw : jnX0_append_43 K v1 m0) : am_Ok mX0_append none (zV fX0 K) 0 0 43 [some (.ref 0), some (.int v1), none] [] (fX0 m0) := by
  unfold jnX0_append_43 at hw
  refine am_aload_n dX0_append_43 rfl ?_
  refine am_getf dX0_append_44 fl_X0_15 rfl rfl ?_
  refine am_if_lt 70 dX0_append_47 (by decide) (fun c2 => ?_) (fun c2 => ?_)
  · have hw := hw.1 c2
    exact am_vreturn dX0_append_70 rfl ⟨_, rfl, rfl, hw⟩
  · have hw := hw.2 c2
    refine am_aload_n dX0_append_50 rfl ?_
    refine am_getf dX0_append_51 fl_X0_9 rfl rfl ?_
    refine am_aload_n dX0_append_54 rfl ?_
    refine am_getf dX0_append_55 fl_X0_15 rfl rfl ?_
    refine am_iload_n dX0_append_58 rfl ?_
    refine am_iastore' (F := fX0) (m := mu_up m0 0 ((m0 2 1)).toNatClampNeg v1) dX0_append_59 rfl hw.1 rfl (fun m3 em3 => ?_)
    have hw := hw.2 m3 em3
    refine am_aload_n dX0_append_60 rfl ?_
    refine am_dup dX0_append_61 rfl ?_
    refine am_getf dX0_append_62 fl_X0_15 rfl rfl ?_
    refine am_iconst dX0_append_65 ic_1 ?_
    refine am_iadd dX0_append_66 ?_
    refine am_putf' (F := fX0) (m := mu_up m3 2 1 ((m3 2 1) + (1 : Int32))) dX0_append_67 fp_X0_15 rfl rfl rfl (fun m4 em4 => ?_)
    have hw := hw m4 em4
    exact am_vreturn dX0_append_70 rfl ⟨_, rfl, rfl, hw⟩
def lpX0_append_11 (K : Mu → Prop)  : Nat → Int32 → Int32 → Mu → Prop
  | 0, _, _, _ => False
  | n + 1, v1, v2, m0 => (((40 : Int32) ≤ v2 → ∀ m6 : Mu, m6 = mu_up m0 2 1 (39 : Int32) → jnX0_append_43 K v1 m6) ∧ (¬ (40 : Int32) ≤ v2 → (vp_in v2 40 ∧ (vp_in (v2 - (1 : Int32)) 40 ∧ ∀ m7 : Mu, m7 = mu_up m0 0 ((v2 - (1 : Int32))).toNatClampNeg (m0 0 (v2).toNatClampNeg) → ∀ x8 : Int32, x8 = v2 + (1 : Int32) → lpX0_append_11 K n v1 x8 m7))))
set_option maxRecDepth 20000 in
theorem slpX0_append_11 {K : Mu → Prop} : ∀ (n : Nat) (v1 v2 : Int32) (m0 : Mu), lpX0_append_11 K n v1 v2 m0 → am_Ok mX0_append none (zV fX0 K) 0 0 11 [some (.ref 0), some (.int v1), some (.int v2)] [] (fX0 m0) := by
  intro n
  induction n with
  | zero => intro v1 v2 m0 hw; exact False.elim hw
  | succ n ih =>
    intro v1 v2 m0 hw
    unfold lpX0_append_11 at hw
    refine am_iload_n dX0_append_11 rfl ?_
    refine am_bipush dX0_append_12 bc_40 ?_
    refine am_icmp_ge 37 dX0_append_14 (by decide) (fun c5 => ?_) (fun c5 => ?_)
    · have hw := hw.1 c5
      refine am_aload_n dX0_append_37 rfl ?_
      refine am_bipush dX0_append_38 bc_39 ?_
      refine am_putf' (F := fX0) (m := mu_up m0 2 1 (39 : Int32)) dX0_append_40 fp_X0_15 rfl rfl rfl (fun m6 em6 => ?_)
      have hw := hw m6 em6
      refine am_forget (ls' := [some (.ref 0), some (.int v1), none]) [true, true, false] rfl ?_
      exact sjnX0_append_43  hw
    · have hw := hw.2 c5
      refine am_aload_n dX0_append_17 rfl ?_
      refine am_getf dX0_append_18 fl_X0_9 rfl rfl ?_
      refine am_iload_n dX0_append_21 rfl ?_
      refine am_iconst dX0_append_22 ic_1 ?_
      refine am_isub dX0_append_23 ?_
      refine am_aload_n dX0_append_24 rfl ?_
      refine am_getf dX0_append_25 fl_X0_9 rfl rfl ?_
      refine am_iload_n dX0_append_28 rfl ?_
      refine am_iaload dX0_append_29 rfl hw.1 ?_
      have hw := hw.2
      refine am_iastore' (F := fX0) (m := mu_up m0 0 ((v2 - (1 : Int32))).toNatClampNeg (m0 0 (v2).toNatClampNeg)) dX0_append_30 rfl hw.1 rfl (fun m7 em7 => ?_)
      have hw := hw.2 m7 em7
      refine am_iinc' (lf := fun y9 => [some (.ref 0), some (.int v1), some (.int y9)]) dX0_append_31 rfl rfl rfl ic_1 (fun _ => rfl) (fun x8 ex8 => ?_)
      have hw := hw x8 ex8
      refine am_goto 11 dX0_append_34 (by decide) ?_
      refine am_forget (ls' := [some (.ref 0), some (.int v1), some (.int x8)]) [true, true, true] rfl ?_
      exact ih _ _ _ hw
def wX0_append (a1 : Int32) (m0 : Mu) (K : Mu → Prop) : Prop := (((m0 2 1) < (40 : Int32) → jnX0_append_43 K a1 m0) ∧ (¬ (m0 2 1) < (40 : Int32) → (∃ n9 : Nat, lpX0_append_11 K n9 a1 (1 : Int32) m0)))
set_option maxRecDepth 20000 in
theorem sX0_append {a1 : Int32} {m0 : Mu} {K : Mu → Prop} (hw : wX0_append a1 m0 K) : am_Met mX0_append [.ref 0, .int a1] (fX0 m0) 0 0 (zV fX0 K) := by
  unfold wX0_append at hw
  refine am_Met.of2 (ls := [some (.ref 0), some (.int a1), none]) pf_X0_append rfl rfl rfl rfl ?_
  refine am_aload_n dX0_append_0 rfl ?_
  refine am_getf dX0_append_1 fl_X0_15 rfl rfl ?_
  refine am_bipush dX0_append_4 bc_40 ?_
  refine am_icmp_lt 43 dX0_append_6 (by decide) (fun c1 => ?_) (fun c1 => ?_)
  · have hw := hw.1 c1
    refine am_forget (ls' := [some (.ref 0), some (.int a1), none]) [true, true, false] rfl ?_
    exact sjnX0_append_43  hw
  · have hw := hw.2 c1
    refine am_iconst dX0_append_9 ic_1 ?_
    refine am_istore_n' (ls' := [some (.ref 0), some (.int a1), some (.int (1 : Int32))]) dX0_append_10 rfl rfl rfl ?_
    obtain ⟨n9, hw⟩ := hw
    refine am_forget (ls' := [some (.ref 0), some (.int a1), some (.int (1 : Int32))]) [true, true, true] rfl ?_
    exact slpX0_append_11  n9 _ _ _ hw

def wX0_forgetAll (m0 : Mu) (K : Mu → Prop) : Prop := ∀ m1 : Mu, m1 = mu_up m0 2 1 (0 : Int32) → K m1
set_option maxRecDepth 20000 in
theorem sX0_forgetAll {m0 : Mu} {K : Mu → Prop} (hw : wX0_forgetAll m0 K) : am_Met mX0_forgetAll [.ref 0] (fX0 m0) 0 0 (zV fX0 K) := by
  unfold wX0_forgetAll at hw
  refine am_Met.of2 (ls := [some (.ref 0)]) pf_X0_forgetAll rfl rfl rfl rfl ?_
  refine am_aload_n dX0_forgetAll_0 rfl ?_
  refine am_iconst dX0_forgetAll_1 ic_0 ?_
  refine am_putf' (F := fX0) (m := mu_up m0 2 1 (0 : Int32)) dX0_forgetAll_2 fp_X0_15 rfl rfl rfl (fun m1 em1 => ?_)
  have hw := hw m1 em1
  exact am_vreturn dX0_forgetAll_5 rfl ⟨_, rfl, rfl, hw⟩

def wX0_latest (a1 : Int32) (m0 : Mu) (K : Int32 → Prop) : Prop := ((a1 < 0 → K (-11 : Int32)) ∧ (¬ a1 < 0 → (((m0 2 1) ≤ a1 → K (-11 : Int32)) ∧ (¬ (m0 2 1) ≤ a1 → (((40 : Int32) < (m0 2 1) → K (-11 : Int32)) ∧ (¬ (40 : Int32) < (m0 2 1) → (vp_in (((m0 2 1) - (1 : Int32)) - a1) 40 ∧ K (m0 0 ((((m0 2 1) - (1 : Int32)) - a1)).toNatClampNeg))))))))
set_option maxRecDepth 20000 in
theorem sX0_latest {a1 : Int32} {m0 : Mu} {K : Int32 → Prop} (hw : wX0_latest a1 m0 K) : am_Met mX0_latest [.ref 0, .int a1] (fX0 m0) 0 0 (zP (fX0 m0) K) := by
  unfold wX0_latest at hw
  refine am_Met.of2 (ls := [some (.ref 0), some (.int a1)]) pf_X0_latest rfl rfl rfl rfl ?_
  refine am_iload_n dX0_latest_0 rfl ?_
  refine am_if_lt 37 dX0_latest_1 (by decide) (fun c1 => ?_) (fun c1 => ?_)
  · have hw := hw.1 c1
    refine am_bipush dX0_latest_37 bc_m11 ?_
    exact am_ireturn dX0_latest_39 rfl ⟨_, rfl, rfl, hw⟩
  · have hw := hw.2 c1
    refine am_iload_n dX0_latest_4 rfl ?_
    refine am_aload_n dX0_latest_5 rfl ?_
    refine am_getf dX0_latest_6 fl_X0_15 rfl rfl ?_
    refine am_icmp_ge 37 dX0_latest_9 (by decide) (fun c2 => ?_) (fun c2 => ?_)
    · have hw := hw.1 c2
      refine am_bipush dX0_latest_37 bc_m11 ?_
      exact am_ireturn dX0_latest_39 rfl ⟨_, rfl, rfl, hw⟩
    · have hw := hw.2 c2
      refine am_aload_n dX0_latest_12 rfl ?_
      refine am_getf dX0_latest_13 fl_X0_15 rfl rfl ?_
      refine am_bipush dX0_latest_16 bc_40 ?_
      refine am_icmp_gt 37 dX0_latest_18 (by decide) (fun c3 => ?_) (fun c3 => ?_)
      · have hw := hw.1 c3
        refine am_bipush dX0_latest_37 bc_m11 ?_
        exact am_ireturn dX0_latest_39 rfl ⟨_, rfl, rfl, hw⟩
      · have hw := hw.2 c3
        refine am_aload_n dX0_latest_21 rfl ?_
        refine am_getf dX0_latest_22 fl_X0_9 rfl rfl ?_
        refine am_aload_n dX0_latest_25 rfl ?_
        refine am_getf dX0_latest_26 fl_X0_15 rfl rfl ?_
        refine am_iconst dX0_latest_29 ic_1 ?_
        refine am_isub dX0_latest_30 ?_
        refine am_iload_n dX0_latest_31 rfl ?_
        refine am_isub dX0_latest_32 ?_
        refine am_iaload dX0_latest_33 rfl hw.1 ?_
        have hw := hw.2
        refine am_goto 39 dX0_latest_34 (by decide) ?_
        exact am_ireturn dX0_latest_39 rfl ⟨_, rfl, rfl, hw⟩

def wX0_removeLatest (m0 : Mu) (K : Int32 → Mu → Prop) : Prop := wX0_latest (0 : Int32) m0 (fun r1 : Int32 => ((r1 = (-11 : Int32) → K r1 m0) ∧ (¬ r1 = (-11 : Int32) → ∀ m3 : Mu, m3 = mu_up m0 2 1 ((m0 2 1) - (1 : Int32)) → K r1 m3)))
set_option maxRecDepth 20000 in
theorem sX0_removeLatest {m0 : Mu} {K : Int32 → Mu → Prop} (hw : wX0_removeLatest m0 K) : am_Met mX0_removeLatest [.ref 0] (fX0 m0) 0 0 (zI fX0 K) := by
  unfold wX0_removeLatest at hw
  refine am_Met.of2 (ls := [some (.ref 0), none]) pf_X0_removeLatest rfl rfl rfl rfl ?_
  refine am_aload_n dX0_removeLatest_0 rfl ?_
  refine am_iconst dX0_removeLatest_1 ic_0 ?_
  refine am_selfP fam_X0 rfl dX0_removeLatest_2 q_X0_removeLatest_19 rfl (sX0_latest hw) rfl rfl rfl rfl rfl (fun r1 hw => ?_)
  refine am_istore_n' (ls' := [some (.ref 0), some (.int r1)]) dX0_removeLatest_5 rfl rfl rfl ?_
  refine am_iload_n dX0_removeLatest_6 rfl ?_
  refine am_bipush dX0_removeLatest_7 bc_m11 ?_
  refine am_icmp_eq 22 dX0_removeLatest_9 (by decide) (fun c2 => ?_) (fun c2 => ?_)
  · have hw := hw.1 c2
    refine am_iload_n dX0_removeLatest_22 rfl ?_
    exact am_ireturn dX0_removeLatest_23 rfl ⟨_, _, rfl, rfl, hw⟩
  · have hw := hw.2 c2
    refine am_aload_n dX0_removeLatest_12 rfl ?_
    refine am_dup dX0_removeLatest_13 rfl ?_
    refine am_getf dX0_removeLatest_14 fl_X0_15 rfl rfl ?_
    refine am_iconst dX0_removeLatest_17 ic_1 ?_
    refine am_isub dX0_removeLatest_18 ?_
    refine am_putf' (F := fX0) (m := mu_up m0 2 1 ((m0 2 1) - (1 : Int32))) dX0_removeLatest_19 fp_X0_15 rfl rfl rfl (fun m3 em3 => ?_)
    have hw := hw m3 em3
    refine am_iload_n dX0_removeLatest_22 rfl ?_
    exact am_ireturn dX0_removeLatest_23 rfl ⟨_, _, rfl, rfl, hw⟩

def wX2_reset (m0 : Mu) (K : Mu → Prop) : Prop := ∀ m1 : Mu, m1 = mu_up m0 3 1 (0 : Int32) → ∀ m2 : Mu, m2 = mu_up m1 3 2 (0 : Int32) → K m2
set_option maxRecDepth 20000 in
theorem sX2_reset {m0 : Mu} {K : Mu → Prop} (hw : wX2_reset m0 K) : am_Met mX2_reset [.ref 0] (fX2 m0) 0 0 (zV fX2 K) := by
  unfold wX2_reset at hw
  refine am_Met.of2 (ls := [some (.ref 0)]) pf_X2_reset rfl rfl rfl rfl ?_
  refine am_aload_n dX2_reset_0 rfl ?_
  refine am_iconst dX2_reset_1 ic_0 ?_
  refine am_putf' (F := fX2) (m := mu_up m0 3 1 (0 : Int32)) dX2_reset_2 fp_X2_15 rfl rfl rfl (fun m1 em1 => ?_)
  have hw := hw m1 em1
  refine am_aload_n dX2_reset_5 rfl ?_
  refine am_iconst dX2_reset_6 ic_0 ?_
  refine am_putf' (F := fX2) (m := mu_up m1 3 2 (0 : Int32)) dX2_reset_7 fp_X2_19 rfl rfl rfl (fun m2 em2 => ?_)
  have hw := hw m2 em2
  exact am_vreturn dX2_reset_10 rfl ⟨_, rfl, rfl, hw⟩

def wX2_add (a1 : Int32) (m0 : Mu) (K : Mu → Prop) : Prop := (((m0 3 2) < 0 → K m0) ∧ (¬ (m0 3 2) < 0 → (((4032 : Int32) ≤ (m0 3 2) → K m0) ∧ (¬ (4032 : Int32) ≤ (m0 3 2) → (vp_in (m0 3 2) 4032 ∧ ∀ m3 : Mu, m3 = mu_up m0 0 ((m0 3 2)).toNatClampNeg a1 → ∀ m4 : Mu, m4 = mu_up m3 3 2 ((m3 3 2) + (1 : Int32)) → K m4)))))
set_option maxRecDepth 20000 in
theorem sX2_add {a1 : Int32} {m0 : Mu} {K : Mu → Prop} (hw : wX2_add a1 m0 K) : am_Met mX2_add [.ref 0, .int a1] (fX2 m0) 0 0 (zV fX2 K) := by
  unfold wX2_add at hw
  refine am_Met.of2 (ls := [some (.ref 0), some (.int a1)]) pf_X2_add rfl rfl rfl rfl ?_
  refine am_aload_n dX2_add_0 rfl ?_
  refine am_getf dX2_add_1 fl_X2_19 rfl rfl ?_
  refine am_if_lt 37 dX2_add_4 (by decide) (fun c1 => ?_) (fun c1 => ?_)
  · have hw := hw.1 c1
    exact am_vreturn dX2_add_37 rfl ⟨_, rfl, rfl, hw⟩
  · have hw := hw.2 c1
    refine am_aload_n dX2_add_7 rfl ?_
    refine am_getf dX2_add_8 fl_X2_19 rfl rfl ?_
    refine am_sipush dX2_add_11 sc_4032 ?_
    refine am_icmp_ge 37 dX2_add_14 (by decide) (fun c2 => ?_) (fun c2 => ?_)
    · have hw := hw.1 c2
      exact am_vreturn dX2_add_37 rfl ⟨_, rfl, rfl, hw⟩
    · have hw := hw.2 c2
      refine am_aload_n dX2_add_17 rfl ?_
      refine am_getf dX2_add_18 fl_X2_9 rfl rfl ?_
      refine am_aload_n dX2_add_21 rfl ?_
      refine am_getf dX2_add_22 fl_X2_19 rfl rfl ?_
      refine am_iload_n dX2_add_25 rfl ?_
      refine am_iastore' (F := fX2) (m := mu_up m0 0 ((m0 3 2)).toNatClampNeg a1) dX2_add_26 rfl hw.1 rfl (fun m3 em3 => ?_)
      have hw := hw.2 m3 em3
      refine am_aload_n dX2_add_27 rfl ?_
      refine am_dup dX2_add_28 rfl ?_
      refine am_getf dX2_add_29 fl_X2_19 rfl rfl ?_
      refine am_iconst dX2_add_32 ic_1 ?_
      refine am_iadd dX2_add_33 ?_
      refine am_putf' (F := fX2) (m := mu_up m3 3 2 ((m3 3 2) + (1 : Int32))) dX2_add_34 fp_X2_19 rfl rfl rfl (fun m4 em4 => ?_)
      have hw := hw m4 em4
      exact am_vreturn dX2_add_37 rfl ⟨_, rfl, rfl, hw⟩

def wX2_first (m0 : Mu) (K : Int32 → Prop) : Prop := (((m0 3 1) < 0 → K (-11 : Int32)) ∧ (¬ (m0 3 1) < 0 → (((m0 3 2) ≤ (m0 3 1) → K (-11 : Int32)) ∧ (¬ (m0 3 2) ≤ (m0 3 1) → (((4032 : Int32) ≤ (m0 3 1) → K (-11 : Int32)) ∧ (¬ (4032 : Int32) ≤ (m0 3 1) → (vp_in (m0 3 1) 4032 ∧ K (m0 0 ((m0 3 1)).toNatClampNeg))))))))
set_option maxRecDepth 20000 in
theorem sX2_first {m0 : Mu} {K : Int32 → Prop} (hw : wX2_first m0 K) : am_Met mX2_first [.ref 0] (fX2 m0) 0 0 (zP (fX2 m0) K) := by
  unfold wX2_first at hw
  refine am_Met.of2 (ls := [some (.ref 0)]) pf_X2_first rfl rfl rfl rfl ?_
  refine am_aload_n dX2_first_0 rfl ?_
  refine am_getf dX2_first_1 fl_X2_15 rfl rfl ?_
  refine am_if_lt 40 dX2_first_4 (by decide) (fun c1 => ?_) (fun c1 => ?_)
  · have hw := hw.1 c1
    refine am_bipush dX2_first_40 bc_m11 ?_
    exact am_ireturn dX2_first_42 rfl ⟨_, rfl, rfl, hw⟩
  · have hw := hw.2 c1
    refine am_aload_n dX2_first_7 rfl ?_
    refine am_getf dX2_first_8 fl_X2_15 rfl rfl ?_
    refine am_aload_n dX2_first_11 rfl ?_
    refine am_getf dX2_first_12 fl_X2_19 rfl rfl ?_
    refine am_icmp_ge 40 dX2_first_15 (by decide) (fun c2 => ?_) (fun c2 => ?_)
    · have hw := hw.1 c2
      refine am_bipush dX2_first_40 bc_m11 ?_
      exact am_ireturn dX2_first_42 rfl ⟨_, rfl, rfl, hw⟩
    · have hw := hw.2 c2
      refine am_aload_n dX2_first_18 rfl ?_
      refine am_getf dX2_first_19 fl_X2_15 rfl rfl ?_
      refine am_sipush dX2_first_22 sc_4032 ?_
      refine am_icmp_ge 40 dX2_first_25 (by decide) (fun c3 => ?_) (fun c3 => ?_)
      · have hw := hw.1 c3
        refine am_bipush dX2_first_40 bc_m11 ?_
        exact am_ireturn dX2_first_42 rfl ⟨_, rfl, rfl, hw⟩
      · have hw := hw.2 c3
        refine am_aload_n dX2_first_28 rfl ?_
        refine am_getf dX2_first_29 fl_X2_9 rfl rfl ?_
        refine am_aload_n dX2_first_32 rfl ?_
        refine am_getf dX2_first_33 fl_X2_15 rfl rfl ?_
        refine am_iaload dX2_first_36 rfl hw.1 ?_
        have hw := hw.2
        refine am_goto 42 dX2_first_37 (by decide) ?_
        exact am_ireturn dX2_first_42 rfl ⟨_, rfl, rfl, hw⟩

def wX2_removeFirst (m0 : Mu) (K : Int32 → Mu → Prop) : Prop := wX2_first m0 (fun r1 : Int32 => ((r1 = (-11 : Int32) → K r1 m0) ∧ (¬ r1 = (-11 : Int32) → ∀ m3 : Mu, m3 = mu_up m0 3 1 ((m0 3 1) + (1 : Int32)) → K r1 m3)))
set_option maxRecDepth 20000 in
theorem sX2_removeFirst {m0 : Mu} {K : Int32 → Mu → Prop} (hw : wX2_removeFirst m0 K) : am_Met mX2_removeFirst [.ref 0] (fX2 m0) 0 0 (zI fX2 K) := by
  unfold wX2_removeFirst at hw
  refine am_Met.of2 (ls := [some (.ref 0), none]) pf_X2_removeFirst rfl rfl rfl rfl ?_
  refine am_aload_n dX2_removeFirst_0 rfl ?_
  refine am_selfP fam_X2 rfl dX2_removeFirst_1 q_X2_removeFirst_22 rfl (sX2_first hw) rfl rfl rfl rfl rfl (fun r1 hw => ?_)
  refine am_istore_n' (ls' := [some (.ref 0), some (.int r1)]) dX2_removeFirst_4 rfl rfl rfl ?_
  refine am_iload_n dX2_removeFirst_5 rfl ?_
  refine am_bipush dX2_removeFirst_6 bc_m11 ?_
  refine am_icmp_eq 21 dX2_removeFirst_8 (by decide) (fun c2 => ?_) (fun c2 => ?_)
  · have hw := hw.1 c2
    refine am_iload_n dX2_removeFirst_21 rfl ?_
    exact am_ireturn dX2_removeFirst_22 rfl ⟨_, _, rfl, rfl, hw⟩
  · have hw := hw.2 c2
    refine am_aload_n dX2_removeFirst_11 rfl ?_
    refine am_dup dX2_removeFirst_12 rfl ?_
    refine am_getf dX2_removeFirst_13 fl_X2_15 rfl rfl ?_
    refine am_iconst dX2_removeFirst_16 ic_1 ?_
    refine am_iadd dX2_removeFirst_17 ?_
    refine am_putf' (F := fX2) (m := mu_up m0 3 1 ((m0 3 1) + (1 : Int32))) dX2_removeFirst_18 fp_X2_15 rfl rfl rfl (fun m3 em3 => ?_)
    have hw := hw m3 em3
    refine am_iload_n dX2_removeFirst_21 rfl ?_
    exact am_ireturn dX2_removeFirst_22 rfl ⟨_, _, rfl, rfl, hw⟩
