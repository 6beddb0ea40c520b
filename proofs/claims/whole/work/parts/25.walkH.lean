def wX4_houseChanges (hp s0 s1 : Bool) (m0 : HM) (K : HM → Prop) : Prop := wX0_forgetAll m0.2.2.1 (fun k1 : Mu => ∀ m2 : HM, m2 = (m0.1, m0.2.1, k1, m0.2.2.2) → ((hp = true → wX1_forgetGoal m2.2.2.2.1 (fun k3 : Mu => ∀ m4 : HM, m4 = (m2.1, m2.2.1, m2.2.2.1, k3, m2.2.2.2.2) → K m4)) ∧ (hp = false → K m2)))
set_option maxRecDepth 20000 in
theorem sX4_houseChanges {hp s0 s1 : Bool} {m0 : HM} {K : HM → Prop} (hw : wX4_houseChanges hp s0 s1 m0 K) : am_Met mX4_houseChanges [.ref 0] ((fX4 hp s0 s1) m0) 0 0 (zV (fX4 hp s0 s1) K) := by
  unfold wX4_houseChanges at hw
  refine am_Met.of2 (ls := [some (.ref 0)]) pf_X4_houseChanges rfl rfl rfl rfl ?_
  refine am_aload_n dX4_houseChanges_0 rfl ?_
  refine am_getf dX4_houseChanges_1 fl_X4_23 rfl rfl ?_
  refine am_partU [8, 9] fam_X0 dX4_houseChanges_4 q_X4_houseChanges_165 rfl (sX0_forgetAll hw) rfl rfl rfl rfl rfl rfl rfl rfl rfl (fun k1 hw => ?_)
  refine am_hm (F := (fX4 hp s0 s1)) (m := (m0.1, m0.2.1, k1, m0.2.2.2)) (pt_8_X0 _ _ _ _ _) (fun m2 em2 => ?_)
  have hw := hw m2 em2
  refine am_aload_n dX4_houseChanges_7 rfl ?_
  cases hp
  · have hw := hw.2 rfl
    refine am_getf dX4_houseChanges_8 fl_X4_168 rfl rfl ?_
    refine am_ifnullN 21 dX4_houseChanges_11 (by decide) ?_
    exact am_vreturn dX4_houseChanges_21 rfl ⟨_, rfl, rfl, hw⟩
  · have hw := hw.1 rfl
    refine am_getf dX4_houseChanges_8 fl_X4_168 rfl rfl ?_
    refine am_ifnull dX4_houseChanges_11 ?_
    refine am_aload_n dX4_houseChanges_14 rfl ?_
    refine am_getf dX4_houseChanges_15 fl_X4_168 rfl rfl ?_
    refine am_partU [10, 11, 12, 13, 14, 15, 16, 17, 18, 19, 20, 21, 22, 23, 24, 25] fam_X1 dX4_houseChanges_18 q_X4_houseChanges_172 rfl (sX1_forgetGoal hw) rfl rfl rfl rfl rfl rfl rfl rfl rfl (fun k3 hw => ?_)
    refine am_hm (F := (fX4 true s0 s1)) (m := (m2.1, m2.2.1, m2.2.2.1, k3, m2.2.2.2.2)) (pt_10_X1 _ _ _ _) (fun m4 em4 => ?_)
    have hw := hw m4 em4
    exact am_vreturn dX4_houseChanges_21 rfl ⟨_, rfl, rfl, hw⟩

def wX4_changeLength (a1 a2 : Int32) (hp s0 s1 : Bool) (m0 : HM) (K : Int32 → HM → Prop) : Prop := wX3_usedAt a1 m0.2.1 (fun r1 : Int32 => ((r1 ≤ a2 → wX3_lengthAt a1 m0.2.1 (fun r3 : Int32 => wX4_houseChanges hp s0 s1 m0 (fun m4 : HM => wX3_setLength a1 a2 m4.2.1 (fun k5 : Mu => ∀ m6 : HM, m6 = (m4.1, k5, m4.2.2) → K r3 m6)))) ∧ (¬ r1 ≤ a2 → K (-5 : Int32) m0)))
set_option maxRecDepth 20000 in
theorem sX4_changeLength {hp s0 s1 : Bool} {a1 a2 : Int32} {m0 : HM} {K : Int32 → HM → Prop} (hw : wX4_changeLength a1 a2 hp s0 s1 m0 K) : am_Met mX4_changeLength [.ref 0, .int a1, .int a2] ((fX4 hp s0 s1) m0) 0 0 (zI (fX4 hp s0 s1) K) := by
  unfold wX4_changeLength at hw
  refine am_Met.of2 (ls := [some (.ref 0), some (.int a1), some (.int a2), none]) pf_X4_changeLength rfl rfl rfl rfl ?_
  refine am_iload_n dX4_changeLength_0 rfl ?_
  refine am_aload_n dX4_changeLength_1 rfl ?_
  refine am_getf dX4_changeLength_2 fl_X4_12 rfl rfl ?_
  refine am_iload_n dX4_changeLength_5 rfl ?_
  refine am_partP [1, 2, 3, 4, 5, 6] fam_X3 dX4_changeLength_6 q_X4_changeLength_149 rfl (sX3_usedAt hw) rfl rfl rfl rfl rfl rfl rfl rfl rfl (fun r1 hw => ?_)
  refine am_icmp_ge 15 dX4_changeLength_9 (by decide) (fun c2 => ?_) (fun c2 => ?_)
  · have hw := hw.1 c2
    refine am_aload_n dX4_changeLength_15 rfl ?_
    refine am_getf dX4_changeLength_16 fl_X4_12 rfl rfl ?_
    refine am_iload_n dX4_changeLength_19 rfl ?_
    refine am_partP [1, 2, 3, 4, 5, 6] fam_X3 dX4_changeLength_20 q_X4_changeLength_35 rfl (sX3_lengthAt hw) rfl rfl rfl rfl rfl rfl rfl rfl rfl (fun r3 hw => ?_)
    refine am_istore_n' (ls' := [some (.ref 0), some (.int a1), some (.int a2), some (.int r3)]) dX4_changeLength_23 rfl rfl rfl ?_
    refine am_aload_n dX4_changeLength_24 rfl ?_
    refine am_selfU4  dX4_changeLength_25 q_X4_changeLength_46 rfl (sX4_houseChanges hw) rfl rfl rfl rfl rfl rfl (fun m4 hw => ?_)
    refine am_aload_n dX4_changeLength_28 rfl ?_
    refine am_getf dX4_changeLength_29 fl_X4_12 rfl rfl ?_
    refine am_iload_n dX4_changeLength_32 rfl ?_
    refine am_iload_n dX4_changeLength_33 rfl ?_
    refine am_partU [1, 2, 3, 4, 5, 6] fam_X3 dX4_changeLength_34 q_X4_changeLength_152 rfl (sX3_setLength hw) rfl rfl rfl rfl rfl rfl rfl rfl rfl (fun k5 hw => ?_)
    refine am_hm (F := (fX4 hp s0 s1)) (m := (m4.1, k5, m4.2.2)) (pt_1_X3 _ _ _ _ _) (fun m6 em6 => ?_)
    have hw := hw m6 em6
    refine am_iload_n dX4_changeLength_37 rfl ?_
    exact am_ireturn dX4_changeLength_38 rfl ⟨_, _, rfl, rfl, hw⟩
  · have hw := hw.2 c2
    refine am_bipush dX4_changeLength_12 bc_m5 ?_
    exact am_ireturn dX4_changeLength_14 rfl ⟨_, _, rfl, rfl, hw⟩

def wX4_setTrack (a1 a2 : Int32) (hp s0 s1 : Bool) (m0 : HM) (K : Int32 → HM → Prop) : Prop := wX4_isPosition a1 (fun r1 : Int32 => ((r1 = 0 → K (-1 : Int32) m0) ∧ (¬ r1 = 0 → ((a2 < 0 → K (-4 : Int32) m0) ∧ (¬ a2 < 0 → ((a2 ≤ (60 : Int32) → wX4_changeLength a1 a2 hp s0 s1 m0 (fun (r5 : Int32) (m6 : HM) => K r5 m6)) ∧ (¬ a2 ≤ (60 : Int32) → K (-4 : Int32) m0)))))))
set_option maxRecDepth 20000 in
theorem sX4_setTrack {hp s0 s1 : Bool} {a1 a2 : Int32} {m0 : HM} {K : Int32 → HM → Prop} (hw : wX4_setTrack a1 a2 hp s0 s1 m0 K) : am_Met mX4_setTrack [.ref 0, .int a1, .int a2] ((fX4 hp s0 s1) m0) 0 0 (zI (fX4 hp s0 s1) K) := by
  unfold wX4_setTrack at hw
  refine am_Met.of2 (ls := [some (.ref 0), some (.int a1), some (.int a2)]) pf_X4_setTrack rfl rfl rfl rfl ?_
  refine am_iload_n dX4_setTrack_0 rfl ?_
  refine am_stS dX4_setTrack_1 q_X4_setTrack_27 (sX4_isPosition hw) rfl rfl rfl rfl (fun r1 hw => ?_)
  refine am_if_ne 9 dX4_setTrack_4 (by decide) (fun c2 => ?_) (fun c2 => ?_)
  · have hw := hw.1 c2
    refine am_iconst dX4_setTrack_7 ic_m1 ?_
    exact am_ireturn dX4_setTrack_8 rfl ⟨_, _, rfl, rfl, hw⟩
  · have hw := hw.2 c2
    refine am_iload_n dX4_setTrack_9 rfl ?_
    refine am_if_lt 19 dX4_setTrack_10 (by decide) (fun c3 => ?_) (fun c3 => ?_)
    · have hw := hw.1 c3
      refine am_bipush dX4_setTrack_19 bc_m4 ?_
      exact am_ireturn dX4_setTrack_21 rfl ⟨_, _, rfl, rfl, hw⟩
    · have hw := hw.2 c3
      refine am_iload_n dX4_setTrack_13 rfl ?_
      refine am_bipush dX4_setTrack_14 bc_60 ?_
      refine am_icmp_le 22 dX4_setTrack_16 (by decide) (fun c4 => ?_) (fun c4 => ?_)
      · have hw := hw.1 c4
        refine am_aload_n dX4_setTrack_22 rfl ?_
        refine am_iload_n dX4_setTrack_23 rfl ?_
        refine am_iload_n dX4_setTrack_24 rfl ?_
        refine am_selfI4  dX4_setTrack_25 q_X4_setTrack_31 rfl (sX4_changeLength hw) rfl rfl rfl rfl rfl rfl (fun r5 m6 hw => ?_)
        exact am_ireturn dX4_setTrack_28 rfl ⟨_, _, rfl, rfl, hw⟩
      · have hw := hw.2 c4
        refine am_bipush dX4_setTrack_19 bc_m4 ?_
        exact am_ireturn dX4_setTrack_21 rfl ⟨_, _, rfl, rfl, hw⟩

def wX4_setTableLength (a1 : Int32) (hp s0 s1 : Bool) (m0 : HM) (K : Int32 → HM → Prop) : Prop := ((a1 < (1 : Int32) → K (-4 : Int32) m0) ∧ (¬ a1 < (1 : Int32) → ((a1 ≤ (60 : Int32) → wX4_changeLength (12 : Int32) a1 hp s0 s1 m0 (fun (r3 : Int32) (m4 : HM) => K r3 m4)) ∧ (¬ a1 ≤ (60 : Int32) → K (-4 : Int32) m0))))
set_option maxRecDepth 20000 in
theorem sX4_setTableLength {hp s0 s1 : Bool} {a1 : Int32} {m0 : HM} {K : Int32 → HM → Prop} (hw : wX4_setTableLength a1 hp s0 s1 m0 K) : am_Met mX4_setTableLength [.ref 0, .int a1] ((fX4 hp s0 s1) m0) 0 0 (zI (fX4 hp s0 s1) K) := by
  unfold wX4_setTableLength at hw
  refine am_Met.of2 (ls := [some (.ref 0), some (.int a1)]) pf_X4_setTableLength rfl rfl rfl rfl ?_
  refine am_iload_n dX4_setTableLength_0 rfl ?_
  refine am_iconst dX4_setTableLength_1 ic_1 ?_
  refine am_icmp_lt 11 dX4_setTableLength_2 (by decide) (fun c1 => ?_) (fun c1 => ?_)
  · have hw := hw.1 c1
    refine am_bipush dX4_setTableLength_11 bc_m4 ?_
    exact am_ireturn dX4_setTableLength_13 rfl ⟨_, _, rfl, rfl, hw⟩
  · have hw := hw.2 c1
    refine am_iload_n dX4_setTableLength_5 rfl ?_
    refine am_bipush dX4_setTableLength_6 bc_60 ?_
    refine am_icmp_le 14 dX4_setTableLength_8 (by decide) (fun c2 => ?_) (fun c2 => ?_)
    · have hw := hw.1 c2
      refine am_aload_n dX4_setTableLength_14 rfl ?_
      refine am_bipush dX4_setTableLength_15 bc_12 ?_
      refine am_iload_n dX4_setTableLength_17 rfl ?_
      refine am_selfI4  dX4_setTableLength_18 q_X4_setTableLength_31 rfl (sX4_changeLength hw) rfl rfl rfl rfl rfl rfl (fun r3 m4 hw => ?_)
      exact am_ireturn dX4_setTableLength_21 rfl ⟨_, _, rfl, rfl, hw⟩
    · have hw := hw.2 c2
      refine am_bipush dX4_setTableLength_11 bc_m4 ?_
      exact am_ireturn dX4_setTableLength_13 rfl ⟨_, _, rfl, rfl, hw⟩

def wX4_addLocomotive (a1 a2 : Int32) (hp s0 s1 : Bool) (m0 : HM) (K : Int32 → HM → Prop) : Prop := wX4_isPosition a2 (fun r1 : Int32 => ((r1 = 0 → K (-1 : Int32) m0) ∧ (¬ r1 = 0 → wX3_lengthAt a2 m0.2.1 (fun r3 : Int32 => ((r3 = 0 → K (-2 : Int32) m0) ∧ (¬ r3 = 0 → ((a1 < (1 : Int32) → K (-4 : Int32) m0) ∧ (¬ a1 < (1 : Int32) → ((a1 ≤ (20 : Int32) → wX3_freeAt a2 m0.2.1 (fun r7 : Int32 => ((a1 ≤ r7 → (((m0.2.1 8 5) < (8 : Int32) → wX4_houseChanges hp s0 s1 m0 (fun m10 : HM => wX3_addFirst a1 a2 m10.2.1 (fun (r13 : Int32) (k11 : Mu) => ∀ m12 : HM, m12 = (m10.1, k11, m10.2.2) → K r13 m12))) ∧ (¬ (m0.2.1 8 5) < (8 : Int32) → K (-9 : Int32) m0))) ∧ (¬ a1 ≤ r7 → K (-8 : Int32) m0)))) ∧ (¬ a1 ≤ (20 : Int32) → K (-4 : Int32) m0))))))))))
set_option maxRecDepth 20000 in
theorem sX4_addLocomotive {hp s0 s1 : Bool} {a1 a2 : Int32} {m0 : HM} {K : Int32 → HM → Prop} (hw : wX4_addLocomotive a1 a2 hp s0 s1 m0 K) : am_Met mX4_addLocomotive [.ref 0, .int a1, .int a2] ((fX4 hp s0 s1) m0) 0 0 (zI (fX4 hp s0 s1) K) := by
  unfold wX4_addLocomotive at hw
  refine am_Met.of2 (ls := [some (.ref 0), some (.int a1), some (.int a2)]) pf_X4_addLocomotive rfl rfl rfl rfl ?_
  refine am_iload_n dX4_addLocomotive_0 rfl ?_
  refine am_stS dX4_addLocomotive_1 q_X4_addLocomotive_27 (sX4_isPosition hw) rfl rfl rfl rfl (fun r1 hw => ?_)
  refine am_if_ne 9 dX4_addLocomotive_4 (by decide) (fun c2 => ?_) (fun c2 => ?_)
  · have hw := hw.1 c2
    refine am_iconst dX4_addLocomotive_7 ic_m1 ?_
    exact am_ireturn dX4_addLocomotive_8 rfl ⟨_, _, rfl, rfl, hw⟩
  · have hw := hw.2 c2
    refine am_aload_n dX4_addLocomotive_9 rfl ?_
    refine am_getf dX4_addLocomotive_10 fl_X4_12 rfl rfl ?_
    refine am_iload_n dX4_addLocomotive_13 rfl ?_
    refine am_partP [1, 2, 3, 4, 5, 6] fam_X3 dX4_addLocomotive_14 q_X4_addLocomotive_35 rfl (sX3_lengthAt hw) rfl rfl rfl rfl rfl rfl rfl rfl rfl (fun r3 hw => ?_)
    refine am_if_ne 23 dX4_addLocomotive_17 (by decide) (fun c4 => ?_) (fun c4 => ?_)
    · have hw := hw.1 c4
      refine am_bipush dX4_addLocomotive_20 bc_m2 ?_
      exact am_ireturn dX4_addLocomotive_22 rfl ⟨_, _, rfl, rfl, hw⟩
    · have hw := hw.2 c4
      refine am_iload_n dX4_addLocomotive_23 rfl ?_
      refine am_iconst dX4_addLocomotive_24 ic_1 ?_
      refine am_icmp_lt 34 dX4_addLocomotive_25 (by decide) (fun c5 => ?_) (fun c5 => ?_)
      · have hw := hw.1 c5
        refine am_bipush dX4_addLocomotive_34 bc_m4 ?_
        exact am_ireturn dX4_addLocomotive_36 rfl ⟨_, _, rfl, rfl, hw⟩
      · have hw := hw.2 c5
        refine am_iload_n dX4_addLocomotive_28 rfl ?_
        refine am_bipush dX4_addLocomotive_29 bc_20 ?_
        refine am_icmp_le 37 dX4_addLocomotive_31 (by decide) (fun c6 => ?_) (fun c6 => ?_)
        · have hw := hw.1 c6
          refine am_iload_n dX4_addLocomotive_37 rfl ?_
          refine am_aload_n dX4_addLocomotive_38 rfl ?_
          refine am_getf dX4_addLocomotive_39 fl_X4_12 rfl rfl ?_
          refine am_iload_n dX4_addLocomotive_42 rfl ?_
          refine am_partP [1, 2, 3, 4, 5, 6] fam_X3 dX4_addLocomotive_43 q_X4_addLocomotive_39 rfl (sX3_freeAt hw) rfl rfl rfl rfl rfl rfl rfl rfl rfl (fun r7 hw => ?_)
          refine am_icmp_le 52 dX4_addLocomotive_46 (by decide) (fun c8 => ?_) (fun c8 => ?_)
          · have hw := hw.1 c8
            refine am_aload_n dX4_addLocomotive_52 rfl ?_
            refine am_getf dX4_addLocomotive_53 fl_X4_12 rfl rfl ?_
            refine am_getf dX4_addLocomotive_56 fl_X4_42 rfl rfl ?_
            refine am_bipush dX4_addLocomotive_59 bc_8 ?_
            refine am_icmp_lt 67 dX4_addLocomotive_61 (by decide) (fun c9 => ?_) (fun c9 => ?_)
            · have hw := hw.1 c9
              refine am_aload_n dX4_addLocomotive_67 rfl ?_
              refine am_selfU4  dX4_addLocomotive_68 q_X4_addLocomotive_46 rfl (sX4_houseChanges hw) rfl rfl rfl rfl rfl rfl (fun m10 hw => ?_)
              refine am_aload_n dX4_addLocomotive_71 rfl ?_
              refine am_getf dX4_addLocomotive_72 fl_X4_12 rfl rfl ?_
              refine am_iload_n dX4_addLocomotive_75 rfl ?_
              refine am_iload_n dX4_addLocomotive_76 rfl ?_
              refine am_partI [1, 2, 3, 4, 5, 6] fam_X3 dX4_addLocomotive_77 q_X4_addLocomotive_49 rfl (sX3_addFirst hw) rfl rfl rfl rfl rfl rfl rfl rfl rfl (fun r13 k11 hw => ?_)
              refine am_hm (F := (fX4 hp s0 s1)) (m := (m10.1, k11, m10.2.2)) (pt_1_X3 _ _ _ _ _) (fun m12 em12 => ?_)
              have hw := hw m12 em12
              exact am_ireturn dX4_addLocomotive_80 rfl ⟨_, _, rfl, rfl, hw⟩
            · have hw := hw.2 c9
              refine am_bipush dX4_addLocomotive_64 bc_m9 ?_
              exact am_ireturn dX4_addLocomotive_66 rfl ⟨_, _, rfl, rfl, hw⟩
          · have hw := hw.2 c8
            refine am_bipush dX4_addLocomotive_49 bc_m8 ?_
            exact am_ireturn dX4_addLocomotive_51 rfl ⟨_, _, rfl, rfl, hw⟩
        · have hw := hw.2 c6
          refine am_bipush dX4_addLocomotive_34 bc_m4 ?_
          exact am_ireturn dX4_addLocomotive_36 rfl ⟨_, _, rfl, rfl, hw⟩

def wX4_removeLocomotive (hp s0 s1 : Bool) (m0 : HM) (K : Int32 → HM → Prop) : Prop := (((m0.2.1 8 5) = 0 → K (-11 : Int32) m0) ∧ (¬ (m0.2.1 8 5) = 0 → wX4_houseChanges hp s0 s1 m0 (fun m2 : HM => wX3_removeNewest m2.2.1 (fun (r5 : Int32) (k3 : Mu) => ∀ m4 : HM, m4 = (m2.1, k3, m2.2.2) → K r5 m4))))
set_option maxRecDepth 20000 in
theorem sX4_removeLocomotive {hp s0 s1 : Bool} {m0 : HM} {K : Int32 → HM → Prop} (hw : wX4_removeLocomotive hp s0 s1 m0 K) : am_Met mX4_removeLocomotive [.ref 0] ((fX4 hp s0 s1) m0) 0 0 (zI (fX4 hp s0 s1) K) := by
  unfold wX4_removeLocomotive at hw
  refine am_Met.of2 (ls := [some (.ref 0)]) pf_X4_removeLocomotive rfl rfl rfl rfl ?_
  refine am_aload_n dX4_removeLocomotive_0 rfl ?_
  refine am_getf dX4_removeLocomotive_1 fl_X4_12 rfl rfl ?_
  refine am_getf dX4_removeLocomotive_4 fl_X4_42 rfl rfl ?_
  refine am_if_ne 13 dX4_removeLocomotive_7 (by decide) (fun c1 => ?_) (fun c1 => ?_)
  · have hw := hw.1 c1
    refine am_bipush dX4_removeLocomotive_10 bc_m11 ?_
    exact am_ireturn dX4_removeLocomotive_12 rfl ⟨_, _, rfl, rfl, hw⟩
  · have hw := hw.2 c1
    refine am_aload_n dX4_removeLocomotive_13 rfl ?_
    refine am_selfU4  dX4_removeLocomotive_14 q_X4_removeLocomotive_46 rfl (sX4_houseChanges hw) rfl rfl rfl rfl rfl rfl (fun m2 hw => ?_)
    refine am_aload_n dX4_removeLocomotive_17 rfl ?_
    refine am_getf dX4_removeLocomotive_18 fl_X4_12 rfl rfl ?_
    refine am_partI [1, 2, 3, 4, 5, 6] fam_X3 dX4_removeLocomotive_21 q_X4_removeLocomotive_52 rfl (sX3_removeNewest hw) rfl rfl rfl rfl rfl rfl rfl rfl rfl (fun r5 k3 hw => ?_)
    refine am_hm (F := (fX4 hp s0 s1)) (m := (m2.1, k3, m2.2.2)) (pt_1_X3 _ _ _ _ _) (fun m4 em4 => ?_)
    have hw := hw m4 em4
    exact am_ireturn dX4_removeLocomotive_24 rfl ⟨_, _, rfl, rfl, hw⟩

def wX4_setDead (a1 a2 : Int32) (hp s0 s1 : Bool) (m0 : HM) (K : Int32 → HM → Prop) : Prop := wX3_isLocomotive a1 m0.2.1 (fun r1 : Int32 => ((r1 = 0 → K (-3 : Int32) m0) ∧ (¬ r1 = 0 → wX3_isAlive a1 m0.2.1 (fun r3 : Int32 => ((r3 = 0 → wX4_houseChanges hp s0 s1 m0 (fun m5 : HM => wX3_markDead a1 a2 m5.2.1 (fun k6 : Mu => ∀ m7 : HM, m7 = (m5.1, k6, m5.2.2) → K (1 : Int32) m7))) ∧ (¬ r3 = 0 → wX4_houseChanges hp s0 s1 m0 (fun m8 : HM => wX3_markDead a1 a2 m8.2.1 (fun k9 : Mu => ∀ m10 : HM, m10 = (m8.1, k9, m8.2.2) → K (0 : Int32) m10))))))))
set_option maxRecDepth 20000 in
theorem sX4_setDead {hp s0 s1 : Bool} {a1 a2 : Int32} {m0 : HM} {K : Int32 → HM → Prop} (hw : wX4_setDead a1 a2 hp s0 s1 m0 K) : am_Met mX4_setDead [.ref 0, .int a1, .int a2] ((fX4 hp s0 s1) m0) 0 0 (zI (fX4 hp s0 s1) K) := by
  unfold wX4_setDead at hw
  refine am_Met.of2 (ls := [some (.ref 0), some (.int a1), some (.int a2), none]) pf_X4_setDead rfl rfl rfl rfl ?_
  refine am_aload_n dX4_setDead_0 rfl ?_
  refine am_getf dX4_setDead_1 fl_X4_12 rfl rfl ?_
  refine am_iload_n dX4_setDead_4 rfl ?_
  refine am_partP [1, 2, 3, 4, 5, 6] fam_X3 dX4_setDead_5 q_X4_setDead_56 rfl (sX3_isLocomotive hw) rfl rfl rfl rfl rfl rfl rfl rfl rfl (fun r1 hw => ?_)
  refine am_if_ne 14 dX4_setDead_8 (by decide) (fun c2 => ?_) (fun c2 => ?_)
  · have hw := hw.1 c2
    refine am_bipush dX4_setDead_11 bc_m3 ?_
    exact am_ireturn dX4_setDead_13 rfl ⟨_, _, rfl, rfl, hw⟩
  · have hw := hw.2 c2
    refine am_aload_n dX4_setDead_14 rfl ?_
    refine am_getf dX4_setDead_15 fl_X4_12 rfl rfl ?_
    refine am_iload_n dX4_setDead_18 rfl ?_
    refine am_partP [1, 2, 3, 4, 5, 6] fam_X3 dX4_setDead_19 q_X4_setDead_59 rfl (sX3_isAlive hw) rfl rfl rfl rfl rfl rfl rfl rfl rfl (fun r3 hw => ?_)
    refine am_if_eq 29 dX4_setDead_22 (by decide) (fun c4 => ?_) (fun c4 => ?_)
    · have hw := hw.1 c4
      refine am_iconst dX4_setDead_29 ic_1 ?_
      refine am_istore_n' (ls' := [some (.ref 0), some (.int a1), some (.int a2), some (.int (1 : Int32))]) dX4_setDead_30 rfl rfl rfl ?_
      refine am_aload_n dX4_setDead_31 rfl ?_
      refine am_selfU4  dX4_setDead_32 q_X4_setDead_46 rfl (sX4_houseChanges hw) rfl rfl rfl rfl rfl rfl (fun m5 hw => ?_)
      refine am_aload_n dX4_setDead_35 rfl ?_
      refine am_getf dX4_setDead_36 fl_X4_12 rfl rfl ?_
      refine am_iload_n dX4_setDead_39 rfl ?_
      refine am_iload_n dX4_setDead_40 rfl ?_
      refine am_partU [1, 2, 3, 4, 5, 6] fam_X3 dX4_setDead_41 q_X4_setDead_62 rfl (sX3_markDead hw) rfl rfl rfl rfl rfl rfl rfl rfl rfl (fun k6 hw => ?_)
      refine am_hm (F := (fX4 hp s0 s1)) (m := (m5.1, k6, m5.2.2)) (pt_1_X3 _ _ _ _ _) (fun m7 em7 => ?_)
      have hw := hw m7 em7
      refine am_iload_n dX4_setDead_44 rfl ?_
      exact am_ireturn dX4_setDead_45 rfl ⟨_, _, rfl, rfl, hw⟩
    · have hw := hw.2 c4
      refine am_iconst dX4_setDead_25 ic_0 ?_
      refine am_goto 30 dX4_setDead_26 (by decide) ?_
      refine am_istore_n' (ls' := [some (.ref 0), some (.int a1), some (.int a2), some (.int (0 : Int32))]) dX4_setDead_30 rfl rfl rfl ?_
      refine am_aload_n dX4_setDead_31 rfl ?_
      refine am_selfU4  dX4_setDead_32 q_X4_setDead_46 rfl (sX4_houseChanges hw) rfl rfl rfl rfl rfl rfl (fun m8 hw => ?_)
      refine am_aload_n dX4_setDead_35 rfl ?_
      refine am_getf dX4_setDead_36 fl_X4_12 rfl rfl ?_
      refine am_iload_n dX4_setDead_39 rfl ?_
      refine am_iload_n dX4_setDead_40 rfl ?_
      refine am_partU [1, 2, 3, 4, 5, 6] fam_X3 dX4_setDead_41 q_X4_setDead_62 rfl (sX3_markDead hw) rfl rfl rfl rfl rfl rfl rfl rfl rfl (fun k9 hw => ?_)
      refine am_hm (F := (fX4 hp s0 s1)) (m := (m8.1, k9, m8.2.2)) (pt_1_X3 _ _ _ _ _) (fun m10 em10 => ?_)
      have hw := hw m10 em10
      refine am_iload_n dX4_setDead_44 rfl ?_
      exact am_ireturn dX4_setDead_45 rfl ⟨_, _, rfl, rfl, hw⟩

def wX4_locomotives (hp s0 s1 : Bool) (m0 : HM) (K : Int32 → Prop) : Prop := K (m0.2.1 8 5)
set_option maxRecDepth 20000 in
theorem sX4_locomotives {hp s0 s1 : Bool} {m0 : HM} {K : Int32 → Prop} (hw : wX4_locomotives hp s0 s1 m0 K) : am_Met mX4_locomotives [.ref 0] ((fX4 hp s0 s1) m0) 0 0 (zP ((fX4 hp s0 s1) m0) K) := by
  unfold wX4_locomotives at hw
  refine am_Met.of2 (ls := [some (.ref 0)]) pf_X4_locomotives rfl rfl rfl rfl ?_
  refine am_aload_n dX4_locomotives_0 rfl ?_
  refine am_getf dX4_locomotives_1 fl_X4_12 rfl rfl ?_
  refine am_getf dX4_locomotives_4 fl_X4_42 rfl rfl ?_
  exact am_ireturn dX4_locomotives_7 rfl ⟨_, rfl, rfl, hw⟩

def wX4_trackLength (a1 : Int32) (hp s0 s1 : Bool) (m0 : HM) (K : Int32 → Prop) : Prop := wX4_isPosition a1 (fun r1 : Int32 => ((r1 = 0 → K (-1 : Int32)) ∧ (¬ r1 = 0 → wX3_lengthAt a1 m0.2.1 (fun r3 : Int32 => K r3))))
set_option maxRecDepth 20000 in
theorem sX4_trackLength {hp s0 s1 : Bool} {a1 : Int32} {m0 : HM} {K : Int32 → Prop} (hw : wX4_trackLength a1 hp s0 s1 m0 K) : am_Met mX4_trackLength [.ref 0, .int a1] ((fX4 hp s0 s1) m0) 0 0 (zP ((fX4 hp s0 s1) m0) K) := by
  unfold wX4_trackLength at hw
  refine am_Met.of2 (ls := [some (.ref 0), some (.int a1)]) pf_X4_trackLength rfl rfl rfl rfl ?_
  refine am_iload_n dX4_trackLength_0 rfl ?_
  refine am_stS dX4_trackLength_1 q_X4_trackLength_27 (sX4_isPosition hw) rfl rfl rfl rfl (fun r1 hw => ?_)
  refine am_if_eq 18 dX4_trackLength_4 (by decide) (fun c2 => ?_) (fun c2 => ?_)
  · have hw := hw.1 c2
    refine am_iconst dX4_trackLength_18 ic_m1 ?_
    exact am_ireturn dX4_trackLength_19 rfl ⟨_, rfl, rfl, hw⟩
  · have hw := hw.2 c2
    refine am_aload_n dX4_trackLength_7 rfl ?_
    refine am_getf dX4_trackLength_8 fl_X4_12 rfl rfl ?_
    refine am_iload_n dX4_trackLength_11 rfl ?_
    refine am_partP [1, 2, 3, 4, 5, 6] fam_X3 dX4_trackLength_12 q_X4_trackLength_35 rfl (sX3_lengthAt hw) rfl rfl rfl rfl rfl rfl rfl rfl rfl (fun r3 hw => ?_)
    refine am_goto 19 dX4_trackLength_15 (by decide) ?_
    exact am_ireturn dX4_trackLength_19 rfl ⟨_, rfl, rfl, hw⟩

def wX4_placeError (a1 : Int32) (hp s0 s1 : Bool) (m0 : HM) (K : Int32 → Prop) : Prop := ((a1 = (12 : Int32) → K (0 : Int32)) ∧ (¬ a1 = (12 : Int32) → wX4_isPosition a1 (fun r2 : Int32 => ((r2 = 0 → K (-1 : Int32)) ∧ (¬ r2 = 0 → wX3_lengthAt a1 m0.2.1 (fun r4 : Int32 => ((r4 = 0 → K (-2 : Int32)) ∧ (¬ r4 = 0 → K (0 : Int32)))))))))
set_option maxRecDepth 20000 in
theorem sX4_placeError {hp s0 s1 : Bool} {a1 : Int32} {m0 : HM} {K : Int32 → Prop} (hw : wX4_placeError a1 hp s0 s1 m0 K) : am_Met mX4_placeError [.ref 0, .int a1] ((fX4 hp s0 s1) m0) 0 0 (zP ((fX4 hp s0 s1) m0) K) := by
  unfold wX4_placeError at hw
  refine am_Met.of2 (ls := [some (.ref 0), some (.int a1)]) pf_X4_placeError rfl rfl rfl rfl ?_
  refine am_iload_n dX4_placeError_0 rfl ?_
  refine am_bipush dX4_placeError_1 bc_12 ?_
  refine am_icmp_ne 8 dX4_placeError_3 (by decide) (fun c1 => ?_) (fun c1 => ?_)
  · have hw := hw.1 c1
    refine am_iconst dX4_placeError_6 ic_0 ?_
    exact am_ireturn dX4_placeError_7 rfl ⟨_, rfl, rfl, hw⟩
  · have hw := hw.2 c1
    refine am_iload_n dX4_placeError_8 rfl ?_
    refine am_stS dX4_placeError_9 q_X4_placeError_27 (sX4_isPosition hw) rfl rfl rfl rfl (fun r2 hw => ?_)
    refine am_if_ne 17 dX4_placeError_12 (by decide) (fun c3 => ?_) (fun c3 => ?_)
    · have hw := hw.1 c3
      refine am_iconst dX4_placeError_15 ic_m1 ?_
      exact am_ireturn dX4_placeError_16 rfl ⟨_, rfl, rfl, hw⟩
    · have hw := hw.2 c3
      refine am_aload_n dX4_placeError_17 rfl ?_
      refine am_getf dX4_placeError_18 fl_X4_12 rfl rfl ?_
      refine am_iload_n dX4_placeError_21 rfl ?_
      refine am_partP [1, 2, 3, 4, 5, 6] fam_X3 dX4_placeError_22 q_X4_placeError_35 rfl (sX3_lengthAt hw) rfl rfl rfl rfl rfl rfl rfl rfl rfl (fun r4 hw => ?_)
      refine am_if_ne 33 dX4_placeError_25 (by decide) (fun c5 => ?_) (fun c5 => ?_)
      · have hw := hw.1 c5
        refine am_bipush dX4_placeError_28 bc_m2 ?_
        refine am_goto 34 dX4_placeError_30 (by decide) ?_
        exact am_ireturn dX4_placeError_34 rfl ⟨_, rfl, rfl, hw⟩
      · have hw := hw.2 c5
        refine am_iconst dX4_placeError_33 ic_0 ?_
        exact am_ireturn dX4_placeError_34 rfl ⟨_, rfl, rfl, hw⟩

def wX4_freeLength (a1 : Int32) (hp s0 s1 : Bool) (m0 : HM) (K : Int32 → Prop) : Prop := wX4_placeError a1 hp s0 s1 m0 (fun r1 : Int32 => ((r1 = 0 → wX3_freeAt a1 m0.2.1 (fun r3 : Int32 => K r3)) ∧ (¬ r1 = 0 → K r1)))
set_option maxRecDepth 20000 in
theorem sX4_freeLength {hp s0 s1 : Bool} {a1 : Int32} {m0 : HM} {K : Int32 → Prop} (hw : wX4_freeLength a1 hp s0 s1 m0 K) : am_Met mX4_freeLength [.ref 0, .int a1] ((fX4 hp s0 s1) m0) 0 0 (zP ((fX4 hp s0 s1) m0) K) := by
  unfold wX4_freeLength at hw
  refine am_Met.of2 (ls := [some (.ref 0), some (.int a1), none]) pf_X4_freeLength rfl rfl rfl rfl ?_
  refine am_aload_n dX4_freeLength_0 rfl ?_
  refine am_iload_n dX4_freeLength_1 rfl ?_
  refine am_selfP4  dX4_freeLength_2 q_X4_freeLength_66 rfl (sX4_placeError hw) rfl rfl rfl rfl rfl rfl (fun r1 hw => ?_)
  refine am_istore_n' (ls' := [some (.ref 0), some (.int a1), some (.int r1)]) dX4_freeLength_5 rfl rfl rfl ?_
  refine am_iload_n dX4_freeLength_6 rfl ?_
  refine am_if_eq 14 dX4_freeLength_7 (by decide) (fun c2 => ?_) (fun c2 => ?_)
  · have hw := hw.1 c2
    refine am_aload_n dX4_freeLength_14 rfl ?_
    refine am_getf dX4_freeLength_15 fl_X4_12 rfl rfl ?_
    refine am_iload_n dX4_freeLength_18 rfl ?_
    refine am_partP [1, 2, 3, 4, 5, 6] fam_X3 dX4_freeLength_19 q_X4_freeLength_39 rfl (sX3_freeAt hw) rfl rfl rfl rfl rfl rfl rfl rfl rfl (fun r3 hw => ?_)
    exact am_ireturn dX4_freeLength_22 rfl ⟨_, rfl, rfl, hw⟩
  · have hw := hw.2 c2
    refine am_iload_n dX4_freeLength_10 rfl ?_
    refine am_goto 22 dX4_freeLength_11 (by decide) ?_
    exact am_ireturn dX4_freeLength_22 rfl ⟨_, rfl, rfl, hw⟩

def wX4_row (a1 a2 : Int32) (hp s0 s1 : Bool) (m0 : HM) (K : Int32 → Prop) : Prop := wX4_placeError a1 hp s0 s1 m0 (fun r1 : Int32 => ((r1 = 0 → ((a2 = (-1 : Int32) → wX3_countAt a1 m0.2.1 (fun r4 : Int32 => K r4)) ∧ (¬ a2 = (-1 : Int32) → wX3_locomotiveAt a1 a2 m0.2.1 (fun r5 : Int32 => K r5)))) ∧ (¬ r1 = 0 → K r1)))
set_option maxRecDepth 20000 in
theorem sX4_row {hp s0 s1 : Bool} {a1 a2 : Int32} {m0 : HM} {K : Int32 → Prop} (hw : wX4_row a1 a2 hp s0 s1 m0 K) : am_Met mX4_row [.ref 0, .int a1, .int a2] ((fX4 hp s0 s1) m0) 0 0 (zP ((fX4 hp s0 s1) m0) K) := by
  unfold wX4_row at hw
  refine am_Met.of2 (ls := [some (.ref 0), some (.int a1), some (.int a2), none]) pf_X4_row rfl rfl rfl rfl ?_
  refine am_aload_n dX4_row_0 rfl ?_
  refine am_iload_n dX4_row_1 rfl ?_
  refine am_selfP4  dX4_row_2 q_X4_row_66 rfl (sX4_placeError hw) rfl rfl rfl rfl rfl rfl (fun r1 hw => ?_)
  refine am_istore_n' (ls' := [some (.ref 0), some (.int a1), some (.int a2), some (.int r1)]) dX4_row_5 rfl rfl rfl ?_
  refine am_iload_n dX4_row_6 rfl ?_
  refine am_if_eq 12 dX4_row_7 (by decide) (fun c2 => ?_) (fun c2 => ?_)
  · have hw := hw.1 c2
    refine am_iload_n dX4_row_12 rfl ?_
    refine am_iconst dX4_row_13 ic_m1 ?_
    refine am_icmp_ne 28 dX4_row_14 (by decide) (fun c3 => ?_) (fun c3 => ?_)
    · have hw := hw.1 c3
      refine am_aload_n dX4_row_17 rfl ?_
      refine am_getf dX4_row_18 fl_X4_12 rfl rfl ?_
      refine am_iload_n dX4_row_21 rfl ?_
      refine am_partP [1, 2, 3, 4, 5, 6] fam_X3 dX4_row_22 q_X4_row_69 rfl (sX3_countAt hw) rfl rfl rfl rfl rfl rfl rfl rfl rfl (fun r4 hw => ?_)
      refine am_goto 37 dX4_row_25 (by decide) ?_
      exact am_ireturn dX4_row_37 rfl ⟨_, rfl, rfl, hw⟩
    · have hw := hw.2 c3
      refine am_aload_n dX4_row_28 rfl ?_
      refine am_getf dX4_row_29 fl_X4_12 rfl rfl ?_
      refine am_iload_n dX4_row_32 rfl ?_
      refine am_iload_n dX4_row_33 rfl ?_
      refine am_partP [1, 2, 3, 4, 5, 6] fam_X3 dX4_row_34 q_X4_row_72 rfl (sX3_locomotiveAt hw) rfl rfl rfl rfl rfl rfl rfl rfl rfl (fun r5 hw => ?_)
      exact am_ireturn dX4_row_37 rfl ⟨_, rfl, rfl, hw⟩
  · have hw := hw.2 c2
    refine am_iload_n dX4_row_10 rfl ?_
    exact am_ireturn dX4_row_11 rfl ⟨_, rfl, rfl, hw⟩

def wX4_place (a1 : Int32) (hp s0 s1 : Bool) (m0 : HM) (K : Int32 → Prop) : Prop := wX3_isLocomotive a1 m0.2.1 (fun r1 : Int32 => ((r1 = 0 → K (-3 : Int32)) ∧ (¬ r1 = 0 → wX3_placeOf a1 m0.2.1 (fun r3 : Int32 => K r3))))
set_option maxRecDepth 20000 in
theorem sX4_place {hp s0 s1 : Bool} {a1 : Int32} {m0 : HM} {K : Int32 → Prop} (hw : wX4_place a1 hp s0 s1 m0 K) : am_Met mX4_place [.ref 0, .int a1] ((fX4 hp s0 s1) m0) 0 0 (zP ((fX4 hp s0 s1) m0) K) := by
  unfold wX4_place at hw
  refine am_Met.of2 (ls := [some (.ref 0), some (.int a1)]) pf_X4_place rfl rfl rfl rfl ?_
  refine am_aload_n dX4_place_0 rfl ?_
  refine am_getf dX4_place_1 fl_X4_12 rfl rfl ?_
  refine am_iload_n dX4_place_4 rfl ?_
  refine am_partP [1, 2, 3, 4, 5, 6] fam_X3 dX4_place_5 q_X4_place_56 rfl (sX3_isLocomotive hw) rfl rfl rfl rfl rfl rfl rfl rfl rfl (fun r1 hw => ?_)
  refine am_if_eq 22 dX4_place_8 (by decide) (fun c2 => ?_) (fun c2 => ?_)
  · have hw := hw.1 c2
    refine am_bipush dX4_place_22 bc_m3 ?_
    exact am_ireturn dX4_place_24 rfl ⟨_, rfl, rfl, hw⟩
  · have hw := hw.2 c2
    refine am_aload_n dX4_place_11 rfl ?_
    refine am_getf dX4_place_12 fl_X4_12 rfl rfl ?_
    refine am_iload_n dX4_place_15 rfl ?_
    refine am_partP [1, 2, 3, 4, 5, 6] fam_X3 dX4_place_16 q_X4_place_75 rfl (sX3_placeOf hw) rfl rfl rfl rfl rfl rfl rfl rfl rfl (fun r3 hw => ?_)
    refine am_goto 24 dX4_place_19 (by decide) ?_
    exact am_ireturn dX4_place_24 rfl ⟨_, rfl, rfl, hw⟩

def wX4_pointsTo (a1 : Int32) (hp s0 s1 : Bool) (m0 : HM) (K : Int32 → Prop) : Prop := wX4_isEnd a1 (fun r1 : Int32 => ((r1 = 0 → K (-4 : Int32)) ∧ (¬ r1 = 0 → wX3_positionAt a1 m0.2.1 (fun r3 : Int32 => K r3))))
set_option maxRecDepth 20000 in
theorem sX4_pointsTo {hp s0 s1 : Bool} {a1 : Int32} {m0 : HM} {K : Int32 → Prop} (hw : wX4_pointsTo a1 hp s0 s1 m0 K) : am_Met mX4_pointsTo [.ref 0, .int a1] ((fX4 hp s0 s1) m0) 0 0 (zP ((fX4 hp s0 s1) m0) K) := by
  unfold wX4_pointsTo at hw
  refine am_Met.of2 (ls := [some (.ref 0), some (.int a1)]) pf_X4_pointsTo rfl rfl rfl rfl ?_
  refine am_iload_n dX4_pointsTo_0 rfl ?_
  refine am_stS dX4_pointsTo_1 q_X4_pointsTo_78 (sX4_isEnd hw) rfl rfl rfl rfl (fun r1 hw => ?_)
  refine am_if_eq 18 dX4_pointsTo_4 (by decide) (fun c2 => ?_) (fun c2 => ?_)
  · have hw := hw.1 c2
    refine am_bipush dX4_pointsTo_18 bc_m4 ?_
    exact am_ireturn dX4_pointsTo_20 rfl ⟨_, rfl, rfl, hw⟩
  · have hw := hw.2 c2
    refine am_aload_n dX4_pointsTo_7 rfl ?_
    refine am_getf dX4_pointsTo_8 fl_X4_12 rfl rfl ?_
    refine am_iload_n dX4_pointsTo_11 rfl ?_
    refine am_partP [1, 2, 3, 4, 5, 6] fam_X3 dX4_pointsTo_12 q_X4_pointsTo_81 rfl (sX3_positionAt hw) rfl rfl rfl rfl rfl rfl rfl rfl rfl (fun r3 hw => ?_)
    refine am_goto 20 dX4_pointsTo_15 (by decide) ?_
    exact am_ireturn dX4_pointsTo_20 rfl ⟨_, rfl, rfl, hw⟩

def lpX4_turn_37 (K : Int32 → HM → Prop)  : Nat → Int32 → Int32 → Int32 → HM → Prop
  | 0, _, _, _, _ => False
  | n + 1, v2, v3, v4, m0 => ((v3 ≤ v4 → ∀ m7 : HM, m7 = (((m0.1) + v3), m0.2) → K (m7.2.1 8 7) m7) ∧ (¬ v3 ≤ v4 → wX3_carryOut v2 m0.2.1 (fun k8 : Mu => ∀ m9 : HM, m9 = (m0.1, k8, m0.2.2) → wX0_append v2 m9.2.2.1 (fun k10 : Mu => ∀ m11 : HM, m11 = (m9.1, m9.2.1, k10, m9.2.2.2) → ∀ x12 : Int32, x12 = v4 + (1 : Int32) → lpX4_turn_37 K n v2 v3 x12 m11))))
set_option maxRecDepth 20000 in
theorem slpX4_turn_37 {hp s0 s1 : Bool} {K : Int32 → HM → Prop} : ∀ (n : Nat) (v2 v3 v4 : Int32) (m0 : HM), lpX4_turn_37 K n v2 v3 v4 m0 → am_Ok mX4_turn none (zI (fX4 hp s0 s1) K) 0 0 37 [some (.ref 0), none, some (.int v2), some (.int v3), some (.int v4)] [] ((fX4 hp s0 s1) m0) := by
  intro n
  induction n with
  | zero => intro v2 v3 v4 m0 hw; exact False.elim hw
  | succ n ih =>
    intro v2 v3 v4 m0 hw
    unfold lpX4_turn_37 at hw
    refine am_iload dX4_turn_37 rfl ?_
    refine am_iload_n dX4_turn_39 rfl ?_
    refine am_icmp_ge 65 dX4_turn_40 (by decide) (fun c6 => ?_) (fun c6 => ?_)
    · have hw := hw.1 c6
      refine am_aload_n dX4_turn_65 rfl ?_
      refine am_dup dX4_turn_66 rfl ?_
      refine am_getf dX4_turn_67 fl_X4_96 rfl rfl ?_
      refine am_iload_n dX4_turn_70 rfl ?_
      refine am_iadd dX4_turn_71 ?_
      refine am_putf' (F := (fX4 hp s0 s1)) (m := (((m0.1) + v3), m0.2)) dX4_turn_72 fp_X4_96 rfl rfl rfl (fun m7 em7 => ?_)
      have hw := hw m7 em7
      refine am_aload_n dX4_turn_75 rfl ?_
      refine am_getf dX4_turn_76 fl_X4_12 rfl rfl ?_
      refine am_getf dX4_turn_79 fl_X4_99 rfl rfl ?_
      exact am_ireturn dX4_turn_82 rfl ⟨_, _, rfl, rfl, hw⟩
    · have hw := hw.2 c6
      refine am_aload_n dX4_turn_43 rfl ?_
      refine am_getf dX4_turn_44 fl_X4_12 rfl rfl ?_
      refine am_iload_n dX4_turn_47 rfl ?_
      refine am_partU [1, 2, 3, 4, 5, 6] fam_X3 dX4_turn_48 q_X4_turn_89 rfl (sX3_carryOut hw) rfl rfl rfl rfl rfl rfl rfl rfl rfl (fun k8 hw => ?_)
      refine am_hm (F := (fX4 hp s0 s1)) (m := (m0.1, k8, m0.2.2)) (pt_1_X3 _ _ _ _ _) (fun m9 em9 => ?_)
      have hw := hw m9 em9
      refine am_aload_n dX4_turn_51 rfl ?_
      refine am_getf dX4_turn_52 fl_X4_23 rfl rfl ?_
      refine am_iload_n dX4_turn_55 rfl ?_
      refine am_partU [8, 9] fam_X0 dX4_turn_56 q_X4_turn_93 rfl (sX0_append hw) rfl rfl rfl rfl rfl rfl rfl rfl rfl (fun k10 hw => ?_)
      refine am_hm (F := (fX4 hp s0 s1)) (m := (m9.1, m9.2.1, k10, m9.2.2.2)) (pt_8_X0 _ _ _ _ _) (fun m11 em11 => ?_)
      have hw := hw m11 em11
      refine am_iinc' (lf := fun y9 => [some (.ref 0), none, some (.int v2), some (.int v3), some (.int y9)]) dX4_turn_59 rfl rfl rfl ic_1 (fun _ => rfl) (fun x12 ex12 => ?_)
      have hw := hw x12 ex12
      refine am_goto 37 dX4_turn_62 (by decide) ?_
      refine am_forget (ls' := [some (.ref 0), none, some (.int v2), some (.int v3), some (.int x12)]) [true, false, true, true, true] rfl ?_
      exact ih _ _ _ _ hw
def wX4_turn (a1 : Int32) (hp s0 s1 : Bool) (m0 : HM) (K : Int32 → HM → Prop) : Prop := ((a1 = 0 → K (-4 : Int32) m0) ∧ (¬ a1 = 0 → ((a1 < (-11 : Int32) → K (-4 : Int32) m0) ∧ (¬ a1 < (-11 : Int32) → ((a1 ≤ (11 : Int32) → ((a1 ≤ 0 → wJ9_abs_0f7a4 a1 (fun r5 : Int32 => (∃ n13 : Nat, lpX4_turn_37 K n13 (1 : Int32) r5 (0 : Int32) m0))) ∧ (¬ a1 ≤ 0 → wJ9_abs_0f7a4 a1 (fun r14 : Int32 => (∃ n15 : Nat, lpX4_turn_37 K n15 (0 : Int32) r14 (0 : Int32) m0))))) ∧ (¬ a1 ≤ (11 : Int32) → K (-4 : Int32) m0))))))
set_option maxRecDepth 20000 in
theorem sX4_turn {hp s0 s1 : Bool} {a1 : Int32} {m0 : HM} {K : Int32 → HM → Prop} (hw : wX4_turn a1 hp s0 s1 m0 K) : am_Met mX4_turn [.ref 0, .int a1] ((fX4 hp s0 s1) m0) 0 0 (zI (fX4 hp s0 s1) K) := by
  unfold wX4_turn at hw
  refine am_Met.of2 (ls := [some (.ref 0), some (.int a1), none, none, none]) pf_X4_turn rfl rfl rfl rfl ?_
  refine am_iload_n dX4_turn_0 rfl ?_
  refine am_if_eq 16 dX4_turn_1 (by decide) (fun c1 => ?_) (fun c1 => ?_)
  · have hw := hw.1 c1
    refine am_bipush dX4_turn_16 bc_m4 ?_
    exact am_ireturn dX4_turn_18 rfl ⟨_, _, rfl, rfl, hw⟩
  · have hw := hw.2 c1
    refine am_iload_n dX4_turn_4 rfl ?_
    refine am_bipush dX4_turn_5 bc_m11 ?_
    refine am_icmp_lt 16 dX4_turn_7 (by decide) (fun c2 => ?_) (fun c2 => ?_)
    · have hw := hw.1 c2
      refine am_bipush dX4_turn_16 bc_m4 ?_
      exact am_ireturn dX4_turn_18 rfl ⟨_, _, rfl, rfl, hw⟩
    · have hw := hw.2 c2
      refine am_iload_n dX4_turn_10 rfl ?_
      refine am_bipush dX4_turn_11 bc_11 ?_
      refine am_icmp_le 19 dX4_turn_13 (by decide) (fun c3 => ?_) (fun c3 => ?_)
      · have hw := hw.1 c3
        refine am_iload_n dX4_turn_19 rfl ?_
        refine am_if_le 27 dX4_turn_20 (by decide) (fun c4 => ?_) (fun c4 => ?_)
        · have hw := hw.1 c4
          refine am_iconst dX4_turn_27 ic_1 ?_
          refine am_istore_n' (ls' := [some (.ref 0), some (.int a1), some (.int (1 : Int32)), none, none]) dX4_turn_28 rfl rfl rfl ?_
          refine am_iload_n dX4_turn_29 rfl ?_
          refine am_stS dX4_turn_30 q_X4_turn_84 (sJ9_abs_0f7a4 hw) rfl rfl rfl rfl (fun r5 hw => ?_)
          refine am_istore_n' (ls' := [some (.ref 0), some (.int a1), some (.int (1 : Int32)), some (.int r5), none]) dX4_turn_33 rfl rfl rfl ?_
          refine am_iconst dX4_turn_34 ic_0 ?_
          refine am_istore' (ls' := [some (.ref 0), some (.int a1), some (.int (1 : Int32)), some (.int r5), some (.int (0 : Int32))]) dX4_turn_35 rfl rfl rfl ?_
          obtain ⟨n13, hw⟩ := hw
          refine am_forget (ls' := [some (.ref 0), none, some (.int (1 : Int32)), some (.int r5), some (.int (0 : Int32))]) [true, false, true, true, true] rfl ?_
          exact slpX4_turn_37  n13 _ _ _ _ hw
        · have hw := hw.2 c4
          refine am_iconst dX4_turn_23 ic_0 ?_
          refine am_goto 28 dX4_turn_24 (by decide) ?_
          refine am_istore_n' (ls' := [some (.ref 0), some (.int a1), some (.int (0 : Int32)), none, none]) dX4_turn_28 rfl rfl rfl ?_
          refine am_iload_n dX4_turn_29 rfl ?_
          refine am_stS dX4_turn_30 q_X4_turn_84 (sJ9_abs_0f7a4 hw) rfl rfl rfl rfl (fun r14 hw => ?_)
          refine am_istore_n' (ls' := [some (.ref 0), some (.int a1), some (.int (0 : Int32)), some (.int r14), none]) dX4_turn_33 rfl rfl rfl ?_
          refine am_iconst dX4_turn_34 ic_0 ?_
          refine am_istore' (ls' := [some (.ref 0), some (.int a1), some (.int (0 : Int32)), some (.int r14), some (.int (0 : Int32))]) dX4_turn_35 rfl rfl rfl ?_
          obtain ⟨n15, hw⟩ := hw
          refine am_forget (ls' := [some (.ref 0), none, some (.int (0 : Int32)), some (.int r14), some (.int (0 : Int32))]) [true, false, true, true, true] rfl ?_
          exact slpX4_turn_37  n15 _ _ _ _ hw
      · have hw := hw.2 c3
        refine am_bipush dX4_turn_16 bc_m4 ?_
        exact am_ireturn dX4_turn_18 rfl ⟨_, _, rfl, rfl, hw⟩

def wX4_moveIfPossible (a1 a2 : Int32) (hp s0 s1 : Bool) (m0 : HM) (K : Int32 → HM → Prop) : Prop := wX3_movementError a1 a2 m0.2.1 (fun r1 : Int32 => ((r1 = 0 → wX3_shift a1 a2 m0.2.1 (fun k3 : Mu => ∀ m4 : HM, m4 = (m0.1, k3, m0.2.2) → wX0_append (a1 + a2) m4.2.2.1 (fun k5 : Mu => ∀ m6 : HM, m6 = (m4.1, m4.2.1, k5, m4.2.2.2) → wX3_targetOf a1 m6.2.1 (fun r7 : Int32 => wX3_countAt r7 m6.2.1 (fun r8 : Int32 => K r8 m6))))) ∧ (¬ r1 = 0 → K r1 m0)))
set_option maxRecDepth 20000 in
theorem sX4_moveIfPossible {hp s0 s1 : Bool} {a1 a2 : Int32} {m0 : HM} {K : Int32 → HM → Prop} (hw : wX4_moveIfPossible a1 a2 hp s0 s1 m0 K) : am_Met mX4_moveIfPossible [.ref 0, .int a1, .int a2] ((fX4 hp s0 s1) m0) 0 0 (zI (fX4 hp s0 s1) K) := by
  unfold wX4_moveIfPossible at hw
  refine am_Met.of2 (ls := [some (.ref 0), some (.int a1), some (.int a2), none]) pf_X4_moveIfPossible rfl rfl rfl rfl ?_
  refine am_aload_n dX4_moveIfPossible_0 rfl ?_
  refine am_getf dX4_moveIfPossible_1 fl_X4_12 rfl rfl ?_
  refine am_iload_n dX4_moveIfPossible_4 rfl ?_
  refine am_iload_n dX4_moveIfPossible_5 rfl ?_
  refine am_partP [1, 2, 3, 4, 5, 6] fam_X3 dX4_moveIfPossible_6 q_X4_moveIfPossible_156 rfl (sX3_movementError hw) rfl rfl rfl rfl rfl rfl rfl rfl rfl (fun r1 hw => ?_)
  refine am_istore_n' (ls' := [some (.ref 0), some (.int a1), some (.int a2), some (.int r1)]) dX4_moveIfPossible_9 rfl rfl rfl ?_
  refine am_iload_n dX4_moveIfPossible_10 rfl ?_
  refine am_if_eq 16 dX4_moveIfPossible_11 (by decide) (fun c2 => ?_) (fun c2 => ?_)
  · have hw := hw.1 c2
    refine am_aload_n dX4_moveIfPossible_16 rfl ?_
    refine am_getf dX4_moveIfPossible_17 fl_X4_12 rfl rfl ?_
    refine am_iload_n dX4_moveIfPossible_20 rfl ?_
    refine am_iload_n dX4_moveIfPossible_21 rfl ?_
    refine am_partU [1, 2, 3, 4, 5, 6] fam_X3 dX4_moveIfPossible_22 q_X4_moveIfPossible_159 rfl (sX3_shift hw) rfl rfl rfl rfl rfl rfl rfl rfl rfl (fun k3 hw => ?_)
    refine am_hm (F := (fX4 hp s0 s1)) (m := (m0.1, k3, m0.2.2)) (pt_1_X3 _ _ _ _ _) (fun m4 em4 => ?_)
    have hw := hw m4 em4
    refine am_aload_n dX4_moveIfPossible_25 rfl ?_
    refine am_getf dX4_moveIfPossible_26 fl_X4_23 rfl rfl ?_
    refine am_iload_n dX4_moveIfPossible_29 rfl ?_
    refine am_iload_n dX4_moveIfPossible_30 rfl ?_
    refine am_iadd dX4_moveIfPossible_31 ?_
    refine am_partU [8, 9] fam_X0 dX4_moveIfPossible_32 q_X4_moveIfPossible_93 rfl (sX0_append hw) rfl rfl rfl rfl rfl rfl rfl rfl rfl (fun k5 hw => ?_)
    refine am_hm (F := (fX4 hp s0 s1)) (m := (m4.1, m4.2.1, k5, m4.2.2.2)) (pt_8_X0 _ _ _ _ _) (fun m6 em6 => ?_)
    have hw := hw m6 em6
    refine am_aload_n dX4_moveIfPossible_35 rfl ?_
    refine am_getf dX4_moveIfPossible_36 fl_X4_12 rfl rfl ?_
    refine am_aload_n dX4_moveIfPossible_39 rfl ?_
    refine am_getf dX4_moveIfPossible_40 fl_X4_12 rfl rfl ?_
    refine am_iload_n dX4_moveIfPossible_43 rfl ?_
    refine am_partP [1, 2, 3, 4, 5, 6] fam_X3 dX4_moveIfPossible_44 q_X4_moveIfPossible_162 rfl (sX3_targetOf hw) rfl rfl rfl rfl rfl rfl rfl rfl rfl (fun r7 hw => ?_)
    refine am_partP [1, 2, 3, 4, 5, 6] fam_X3 dX4_moveIfPossible_47 q_X4_moveIfPossible_69 rfl (sX3_countAt hw) rfl rfl rfl rfl rfl rfl rfl rfl rfl (fun r8 hw => ?_)
    exact am_ireturn dX4_moveIfPossible_50 rfl ⟨_, _, rfl, rfl, hw⟩
  · have hw := hw.2 c2
    refine am_iload_n dX4_moveIfPossible_14 rfl ?_
    exact am_ireturn dX4_moveIfPossible_15 rfl ⟨_, _, rfl, rfl, hw⟩

def wX4_moveIn (a1 a2 : Int32) (hp s0 s1 : Bool) (m0 : HM) (K : Int32 → HM → Prop) : Prop := wX4_isEnd a1 (fun r1 : Int32 => ((r1 = 0 → K (-4 : Int32) m0) ∧ (¬ r1 = 0 → (((1 : Int32) ≤ a2 → ((a1 = 0 → wX4_moveIfPossible (10 : Int32) a2 hp s0 s1 m0 (fun (r5 : Int32) (m6 : HM) => K r5 m6)) ∧ (¬ a1 = 0 → wX4_moveIfPossible (20 : Int32) a2 hp s0 s1 m0 (fun (r7 : Int32) (m8 : HM) => K r7 m8)))) ∧ (¬ (1 : Int32) ≤ a2 → K (-4 : Int32) m0)))))
set_option maxRecDepth 20000 in
theorem sX4_moveIn {hp s0 s1 : Bool} {a1 a2 : Int32} {m0 : HM} {K : Int32 → HM → Prop} (hw : wX4_moveIn a1 a2 hp s0 s1 m0 K) : am_Met mX4_moveIn [.ref 0, .int a1, .int a2] ((fX4 hp s0 s1) m0) 0 0 (zI (fX4 hp s0 s1) K) := by
  unfold wX4_moveIn at hw
  refine am_Met.of2 (ls := [some (.ref 0), some (.int a1), some (.int a2)]) pf_X4_moveIn rfl rfl rfl rfl ?_
  refine am_iload_n dX4_moveIn_0 rfl ?_
  refine am_stS dX4_moveIn_1 q_X4_moveIn_78 (sX4_isEnd hw) rfl rfl rfl rfl (fun r1 hw => ?_)
  refine am_if_eq 12 dX4_moveIn_4 (by decide) (fun c2 => ?_) (fun c2 => ?_)
  · have hw := hw.1 c2
    refine am_bipush dX4_moveIn_12 bc_m4 ?_
    exact am_ireturn dX4_moveIn_14 rfl ⟨_, _, rfl, rfl, hw⟩
  · have hw := hw.2 c2
    refine am_iload_n dX4_moveIn_7 rfl ?_
    refine am_iconst dX4_moveIn_8 ic_1 ?_
    refine am_icmp_ge 15 dX4_moveIn_9 (by decide) (fun c3 => ?_) (fun c3 => ?_)
    · have hw := hw.1 c3
      refine am_aload_n dX4_moveIn_15 rfl ?_
      refine am_iload_n dX4_moveIn_16 rfl ?_
      refine am_if_ne 25 dX4_moveIn_17 (by decide) (fun c4 => ?_) (fun c4 => ?_)
      · have hw := hw.1 c4
        refine am_bipush dX4_moveIn_20 bc_10 ?_
        refine am_goto 27 dX4_moveIn_22 (by decide) ?_
        refine am_iload_n dX4_moveIn_27 rfl ?_
        refine am_selfI4  dX4_moveIn_28 q_X4_moveIn_102 rfl (sX4_moveIfPossible hw) rfl rfl rfl rfl rfl rfl (fun r5 m6 hw => ?_)
        exact am_ireturn dX4_moveIn_31 rfl ⟨_, _, rfl, rfl, hw⟩
      · have hw := hw.2 c4
        refine am_bipush dX4_moveIn_25 bc_20 ?_
        refine am_iload_n dX4_moveIn_27 rfl ?_
        refine am_selfI4  dX4_moveIn_28 q_X4_moveIn_102 rfl (sX4_moveIfPossible hw) rfl rfl rfl rfl rfl rfl (fun r7 m8 hw => ?_)
        exact am_ireturn dX4_moveIn_31 rfl ⟨_, _, rfl, rfl, hw⟩
    · have hw := hw.2 c3
      refine am_bipush dX4_moveIn_12 bc_m4 ?_
      exact am_ireturn dX4_moveIn_14 rfl ⟨_, _, rfl, rfl, hw⟩

def wX4_moveOut (a1 a2 : Int32) (hp s0 s1 : Bool) (m0 : HM) (K : Int32 → HM → Prop) : Prop := wX4_isEnd a1 (fun r1 : Int32 => ((r1 = 0 → K (-4 : Int32) m0) ∧ (¬ r1 = 0 → (((1 : Int32) ≤ a2 → ((a1 = 0 → wX4_moveIfPossible (30 : Int32) a2 hp s0 s1 m0 (fun (r5 : Int32) (m6 : HM) => K r5 m6)) ∧ (¬ a1 = 0 → wX4_moveIfPossible (40 : Int32) a2 hp s0 s1 m0 (fun (r7 : Int32) (m8 : HM) => K r7 m8)))) ∧ (¬ (1 : Int32) ≤ a2 → K (-4 : Int32) m0)))))
set_option maxRecDepth 20000 in
theorem sX4_moveOut {hp s0 s1 : Bool} {a1 a2 : Int32} {m0 : HM} {K : Int32 → HM → Prop} (hw : wX4_moveOut a1 a2 hp s0 s1 m0 K) : am_Met mX4_moveOut [.ref 0, .int a1, .int a2] ((fX4 hp s0 s1) m0) 0 0 (zI (fX4 hp s0 s1) K) := by
  unfold wX4_moveOut at hw
  refine am_Met.of2 (ls := [some (.ref 0), some (.int a1), some (.int a2)]) pf_X4_moveOut rfl rfl rfl rfl ?_
  refine am_iload_n dX4_moveOut_0 rfl ?_
  refine am_stS dX4_moveOut_1 q_X4_moveOut_78 (sX4_isEnd hw) rfl rfl rfl rfl (fun r1 hw => ?_)
  refine am_if_eq 12 dX4_moveOut_4 (by decide) (fun c2 => ?_) (fun c2 => ?_)
  · have hw := hw.1 c2
    refine am_bipush dX4_moveOut_12 bc_m4 ?_
    exact am_ireturn dX4_moveOut_14 rfl ⟨_, _, rfl, rfl, hw⟩
  · have hw := hw.2 c2
    refine am_iload_n dX4_moveOut_7 rfl ?_
    refine am_iconst dX4_moveOut_8 ic_1 ?_
    refine am_icmp_ge 15 dX4_moveOut_9 (by decide) (fun c3 => ?_) (fun c3 => ?_)
    · have hw := hw.1 c3
      refine am_aload_n dX4_moveOut_15 rfl ?_
      refine am_iload_n dX4_moveOut_16 rfl ?_
      refine am_if_ne 25 dX4_moveOut_17 (by decide) (fun c4 => ?_) (fun c4 => ?_)
      · have hw := hw.1 c4
        refine am_bipush dX4_moveOut_20 bc_30 ?_
        refine am_goto 27 dX4_moveOut_22 (by decide) ?_
        refine am_iload_n dX4_moveOut_27 rfl ?_
        refine am_selfI4  dX4_moveOut_28 q_X4_moveOut_102 rfl (sX4_moveIfPossible hw) rfl rfl rfl rfl rfl rfl (fun r5 m6 hw => ?_)
        exact am_ireturn dX4_moveOut_31 rfl ⟨_, _, rfl, rfl, hw⟩
      · have hw := hw.2 c4
        refine am_bipush dX4_moveOut_25 bc_40 ?_
        refine am_iload_n dX4_moveOut_27 rfl ?_
        refine am_selfI4  dX4_moveOut_28 q_X4_moveOut_102 rfl (sX4_moveIfPossible hw) rfl rfl rfl rfl rfl rfl (fun r7 m8 hw => ?_)
        exact am_ireturn dX4_moveOut_31 rfl ⟨_, _, rfl, rfl, hw⟩
    · have hw := hw.2 c3
      refine am_bipush dX4_moveOut_12 bc_m4 ?_
      exact am_ireturn dX4_moveOut_14 rfl ⟨_, _, rfl, rfl, hw⟩

def wX4_turnsMade (hp s0 s1 : Bool) (m0 : HM) (K : Int32 → Prop) : Prop := K (m0.1)
set_option maxRecDepth 20000 in
theorem sX4_turnsMade {hp s0 s1 : Bool} {m0 : HM} {K : Int32 → Prop} (hw : wX4_turnsMade hp s0 s1 m0 K) : am_Met mX4_turnsMade [.ref 0] ((fX4 hp s0 s1) m0) 0 0 (zP ((fX4 hp s0 s1) m0) K) := by
  unfold wX4_turnsMade at hw
  refine am_Met.of2 (ls := [some (.ref 0)]) pf_X4_turnsMade rfl rfl rfl rfl ?_
  refine am_aload_n dX4_turnsMade_0 rfl ?_
  refine am_getf dX4_turnsMade_1 fl_X4_96 rfl rfl ?_
  exact am_ireturn dX4_turnsMade_4 rfl ⟨_, rfl, rfl, hw⟩

def wX4_undo (hp s0 s1 : Bool) (m0 : HM) (K : Int32 → HM → Prop) : Prop := wX0_removeLatest m0.2.2.1 (fun (r3 : Int32) (k1 : Mu) => ∀ m2 : HM, m2 = (m0.1, m0.2.1, k1, m0.2.2.2) → ((r3 = (-11 : Int32) → K r3 m2) ∧ (¬ r3 = (-11 : Int32) → wX4_reverseOf r3 (fun r5 : Int32 => wX3_carryOut r5 m2.2.1 (fun k6 : Mu => ∀ m7 : HM, m7 = (m2.1, k6, m2.2.2) → K r3 m7)))))
set_option maxRecDepth 20000 in
theorem sX4_undo {hp s0 s1 : Bool} {m0 : HM} {K : Int32 → HM → Prop} (hw : wX4_undo hp s0 s1 m0 K) : am_Met mX4_undo [.ref 0] ((fX4 hp s0 s1) m0) 0 0 (zI (fX4 hp s0 s1) K) := by
  unfold wX4_undo at hw
  refine am_Met.of2 (ls := [some (.ref 0), none]) pf_X4_undo rfl rfl rfl rfl ?_
  refine am_aload_n dX4_undo_0 rfl ?_
  refine am_getf dX4_undo_1 fl_X4_23 rfl rfl ?_
  refine am_partI [8, 9] fam_X0 dX4_undo_4 q_X4_undo_105 rfl (sX0_removeLatest hw) rfl rfl rfl rfl rfl rfl rfl rfl rfl (fun r3 k1 hw => ?_)
  refine am_hm (F := (fX4 hp s0 s1)) (m := (m0.1, m0.2.1, k1, m0.2.2.2)) (pt_8_X0 _ _ _ _ _) (fun m2 em2 => ?_)
  have hw := hw m2 em2
  refine am_istore_n' (ls' := [some (.ref 0), some (.int r3)]) dX4_undo_7 rfl rfl rfl ?_
  refine am_iload_n dX4_undo_8 rfl ?_
  refine am_bipush dX4_undo_9 bc_m11 ?_
  refine am_icmp_eq 25 dX4_undo_11 (by decide) (fun c4 => ?_) (fun c4 => ?_)
  · have hw := hw.1 c4
    refine am_iload_n dX4_undo_25 rfl ?_
    exact am_ireturn dX4_undo_26 rfl ⟨_, _, rfl, rfl, hw⟩
  · have hw := hw.2 c4
    refine am_aload_n dX4_undo_14 rfl ?_
    refine am_getf dX4_undo_15 fl_X4_12 rfl rfl ?_
    refine am_iload_n dX4_undo_18 rfl ?_
    refine am_stS dX4_undo_19 q_X4_undo_108 (sX4_reverseOf hw) rfl rfl rfl rfl (fun r5 hw => ?_)
    refine am_partU [1, 2, 3, 4, 5, 6] fam_X3 dX4_undo_22 q_X4_undo_89 rfl (sX3_carryOut hw) rfl rfl rfl rfl rfl rfl rfl rfl rfl (fun k6 hw => ?_)
    refine am_hm (F := (fX4 hp s0 s1)) (m := (m2.1, k6, m2.2.2)) (pt_1_X3 _ _ _ _ _) (fun m7 em7 => ?_)
    have hw := hw m7 em7
    refine am_iload_n dX4_undo_25 rfl ?_
    exact am_ireturn dX4_undo_26 rfl ⟨_, _, rfl, rfl, hw⟩

def wX4_log (a1 : Int32) (hp s0 s1 : Bool) (m0 : HM) (K : Int32 → Prop) : Prop := ((a1 = (-1 : Int32) → K (m0.2.2.1 2 1)) ∧ (¬ a1 = (-1 : Int32) → wX0_latest a1 m0.2.2.1 (fun r2 : Int32 => K r2)))
set_option maxRecDepth 20000 in
theorem sX4_log {hp s0 s1 : Bool} {a1 : Int32} {m0 : HM} {K : Int32 → Prop} (hw : wX4_log a1 hp s0 s1 m0 K) : am_Met mX4_log [.ref 0, .int a1] ((fX4 hp s0 s1) m0) 0 0 (zP ((fX4 hp s0 s1) m0) K) := by
  unfold wX4_log at hw
  refine am_Met.of2 (ls := [some (.ref 0), some (.int a1)]) pf_X4_log rfl rfl rfl rfl ?_
  refine am_iload_n dX4_log_0 rfl ?_
  refine am_iconst dX4_log_1 ic_m1 ?_
  refine am_icmp_ne 15 dX4_log_2 (by decide) (fun c1 => ?_) (fun c1 => ?_)
  · have hw := hw.1 c1
    refine am_aload_n dX4_log_5 rfl ?_
    refine am_getf dX4_log_6 fl_X4_23 rfl rfl ?_
    refine am_getf dX4_log_9 fl_X4_111 rfl rfl ?_
    refine am_goto 23 dX4_log_12 (by decide) ?_
    exact am_ireturn dX4_log_23 rfl ⟨_, rfl, rfl, hw⟩
  · have hw := hw.2 c1
    refine am_aload_n dX4_log_15 rfl ?_
    refine am_getf dX4_log_16 fl_X4_23 rfl rfl ?_
    refine am_iload_n dX4_log_19 rfl ?_
    refine am_partP [8, 9] fam_X0 dX4_log_20 q_X4_log_114 rfl (sX0_latest hw) rfl rfl rfl rfl rfl rfl rfl rfl rfl (fun r2 hw => ?_)
    exact am_ireturn dX4_log_23 rfl ⟨_, rfl, rfl, hw⟩

def wX4_planError (a1 a2 : Int32) (hp s0 s1 : Bool) (m0 : HM) (K : Int32 → Prop) : Prop := wX3_isLocomotive a1 m0.2.1 (fun r1 : Int32 => ((r1 = 0 → K (-3 : Int32)) ∧ (¬ r1 = 0 → wX4_isPosition a2 (fun r3 : Int32 => ((r3 = 0 → K (-1 : Int32)) ∧ (¬ r3 = 0 → wX3_lengthAt a2 m0.2.1 (fun r5 : Int32 => ((r5 = 0 → K (-2 : Int32)) ∧ (¬ r5 = 0 → (((3 : Int32) < (m0.2.1 8 5) → (((0 : Int32) = 0 → K (-9 : Int32)) ∧ (¬ (0 : Int32) = 0 → K (0 : Int32)))) ∧ (¬ (3 : Int32) < (m0.2.1 8 5) → wX3_trackCount m0.2.1 (fun r9 : Int32 => (((5 : Int32) < r9 → (((0 : Int32) = 0 → K (-9 : Int32)) ∧ (¬ (0 : Int32) = 0 → K (0 : Int32)))) ∧ (¬ (5 : Int32) < r9 → (((1 : Int32) = 0 → K (-9 : Int32)) ∧ (¬ (1 : Int32) = 0 → K (0 : Int32)))))))))))))))))
set_option maxRecDepth 20000 in
theorem sX4_planError {hp s0 s1 : Bool} {a1 a2 : Int32} {m0 : HM} {K : Int32 → Prop} (hw : wX4_planError a1 a2 hp s0 s1 m0 K) : am_Met mX4_planError [.ref 0, .int a1, .int a2] ((fX4 hp s0 s1) m0) 0 0 (zP ((fX4 hp s0 s1) m0) K) := by
  unfold wX4_planError at hw
  refine am_Met.of2 (ls := [some (.ref 0), some (.int a1), some (.int a2), none]) pf_X4_planError rfl rfl rfl rfl ?_
  refine am_aload_n dX4_planError_0 rfl ?_
  refine am_getf dX4_planError_1 fl_X4_12 rfl rfl ?_
  refine am_iload_n dX4_planError_4 rfl ?_
  refine am_partP [1, 2, 3, 4, 5, 6] fam_X3 dX4_planError_5 q_X4_planError_56 rfl (sX3_isLocomotive hw) rfl rfl rfl rfl rfl rfl rfl rfl rfl (fun r1 hw => ?_)
  refine am_if_ne 14 dX4_planError_8 (by decide) (fun c2 => ?_) (fun c2 => ?_)
  · have hw := hw.1 c2
    refine am_bipush dX4_planError_11 bc_m3 ?_
    exact am_ireturn dX4_planError_13 rfl ⟨_, rfl, rfl, hw⟩
  · have hw := hw.2 c2
    refine am_iload_n dX4_planError_14 rfl ?_
    refine am_stS dX4_planError_15 q_X4_planError_27 (sX4_isPosition hw) rfl rfl rfl rfl (fun r3 hw => ?_)
    refine am_if_ne 23 dX4_planError_18 (by decide) (fun c4 => ?_) (fun c4 => ?_)
    · have hw := hw.1 c4
      refine am_iconst dX4_planError_21 ic_m1 ?_
      exact am_ireturn dX4_planError_22 rfl ⟨_, rfl, rfl, hw⟩
    · have hw := hw.2 c4
      refine am_aload_n dX4_planError_23 rfl ?_
      refine am_getf dX4_planError_24 fl_X4_12 rfl rfl ?_
      refine am_iload_n dX4_planError_27 rfl ?_
      refine am_partP [1, 2, 3, 4, 5, 6] fam_X3 dX4_planError_28 q_X4_planError_35 rfl (sX3_lengthAt hw) rfl rfl rfl rfl rfl rfl rfl rfl rfl (fun r5 hw => ?_)
      refine am_if_ne 37 dX4_planError_31 (by decide) (fun c6 => ?_) (fun c6 => ?_)
      · have hw := hw.1 c6
        refine am_bipush dX4_planError_34 bc_m2 ?_
        exact am_ireturn dX4_planError_36 rfl ⟨_, rfl, rfl, hw⟩
      · have hw := hw.2 c6
        refine am_aload_n dX4_planError_37 rfl ?_
        refine am_getf dX4_planError_38 fl_X4_12 rfl rfl ?_
        refine am_getf dX4_planError_41 fl_X4_42 rfl rfl ?_
        refine am_iconst dX4_planError_44 ic_3 ?_
        refine am_icmp_gt 63 dX4_planError_45 (by decide) (fun c7 => ?_) (fun c7 => ?_)
        · have hw := hw.1 c7
          refine am_iconst dX4_planError_63 ic_0 ?_
          refine am_istore_n' (ls' := [some (.ref 0), some (.int a1), some (.int a2), some (.int (0 : Int32))]) dX4_planError_64 rfl rfl rfl ?_
          refine am_iload_n dX4_planError_65 rfl ?_
          refine am_if_eq 73 dX4_planError_66 (by decide) (fun c8 => ?_) (fun c8 => ?_)
          · have hw := hw.1 c8
            refine am_bipush dX4_planError_73 bc_m9 ?_
            exact am_ireturn dX4_planError_75 rfl ⟨_, rfl, rfl, hw⟩
          · have hw := hw.2 c8
            refine am_iconst dX4_planError_69 ic_0 ?_
            refine am_goto 75 dX4_planError_70 (by decide) ?_
            exact am_ireturn dX4_planError_75 rfl ⟨_, rfl, rfl, hw⟩
        · have hw := hw.2 c7
          refine am_aload_n dX4_planError_48 rfl ?_
          refine am_getf dX4_planError_49 fl_X4_12 rfl rfl ?_
          refine am_partP [1, 2, 3, 4, 5, 6] fam_X3 dX4_planError_52 q_X4_planError_146 rfl (sX3_trackCount hw) rfl rfl rfl rfl rfl rfl rfl rfl rfl (fun r9 hw => ?_)
          refine am_iconst dX4_planError_55 ic_5 ?_
          refine am_icmp_gt 63 dX4_planError_56 (by decide) (fun c10 => ?_) (fun c10 => ?_)
          · have hw := hw.1 c10
            refine am_iconst dX4_planError_63 ic_0 ?_
            refine am_istore_n' (ls' := [some (.ref 0), some (.int a1), some (.int a2), some (.int (0 : Int32))]) dX4_planError_64 rfl rfl rfl ?_
            refine am_iload_n dX4_planError_65 rfl ?_
            refine am_if_eq 73 dX4_planError_66 (by decide) (fun c11 => ?_) (fun c11 => ?_)
            · have hw := hw.1 c11
              refine am_bipush dX4_planError_73 bc_m9 ?_
              exact am_ireturn dX4_planError_75 rfl ⟨_, rfl, rfl, hw⟩
            · have hw := hw.2 c11
              refine am_iconst dX4_planError_69 ic_0 ?_
              refine am_goto 75 dX4_planError_70 (by decide) ?_
              exact am_ireturn dX4_planError_75 rfl ⟨_, rfl, rfl, hw⟩
          · have hw := hw.2 c10
            refine am_iconst dX4_planError_59 ic_1 ?_
            refine am_goto 64 dX4_planError_60 (by decide) ?_
            refine am_istore_n' (ls' := [some (.ref 0), some (.int a1), some (.int a2), some (.int (1 : Int32))]) dX4_planError_64 rfl rfl rfl ?_
            refine am_iload_n dX4_planError_65 rfl ?_
            refine am_if_eq 73 dX4_planError_66 (by decide) (fun c12 => ?_) (fun c12 => ?_)
            · have hw := hw.1 c12
              refine am_bipush dX4_planError_73 bc_m9 ?_
              exact am_ireturn dX4_planError_75 rfl ⟨_, rfl, rfl, hw⟩
            · have hw := hw.2 c12
              refine am_iconst dX4_planError_69 ic_0 ?_
              refine am_goto 75 dX4_planError_70 (by decide) ?_
              exact am_ireturn dX4_planError_75 rfl ⟨_, rfl, rfl, hw⟩

def wX4_readyPlanner (hp s0 s1 : Bool) (m0 : HM) (K : HM → Prop) : Prop := ((hp = true → K m0) ∧ (hp = false → ((s0 = true → ((s1 = true → ∀ m1 : HM, m1 = (m0.1, m0.2.1, m0.2.2.1, (mu_set (mu_set (fun _ _ => 0) 20 (upd (fun _ => 0) 12 30)) 13 (upd (upd (fun _ => 0) 11 (-11)) 12 (-11))), m0.2.2.2.2) → K m1) ∧ (s1 = false → ∀ m2 : HM, m2 = (m0.1, m0.2.1, m0.2.2.1, (mu_set (mu_set (fun _ _ => 0) 20 (upd (fun _ => 0) 12 30)) 13 (upd (upd (fun _ => 0) 11 (-11)) 12 (-11))), m0.2.2.2.2) → K m2))) ∧ (s0 = false → ((s1 = true → ∀ m3 : HM, m3 = (m0.1, m0.2.1, m0.2.2.1, (mu_set (mu_set (fun _ _ => 0) 20 (upd (fun _ => 0) 12 30)) 13 (upd (upd (fun _ => 0) 11 (-11)) 12 (-11))), m0.2.2.2.2) → K m3) ∧ (s1 = false → ∀ m4 : HM, m4 = (m0.1, m0.2.1, m0.2.2.1, (mu_set (mu_set (fun _ _ => 0) 20 (upd (fun _ => 0) 12 30)) 13 (upd (upd (fun _ => 0) 11 (-11)) 12 (-11))), m0.2.2.2.2) → K m4))))))
set_option maxRecDepth 20000 in
theorem sX4_readyPlanner {hp s0 s1 : Bool} {m0 : HM} {K : HM → Prop} (hw : wX4_readyPlanner hp s0 s1 m0 K) : am_Met mX4_readyPlanner [.ref 0] ((fX4 hp s0 s1) m0) 16 12311 (zR s0 s1 K) := by
  unfold wX4_readyPlanner at hw
  refine am_Met.of2 (ls := [some (.ref 0)]) pf_X4_readyPlanner rfl rfl rfl rfl ?_
  refine am_aload_n dX4_readyPlanner_0 rfl ?_
  cases hp
  · have hw := hw.2 rfl
    refine am_getf dX4_readyPlanner_1 fl_X4_168 rfl rfl ?_
    refine am_ifnonnullN dX4_readyPlanner_4 ?_
    refine am_aload_n dX4_readyPlanner_7 rfl ?_
    cases s0
    · have hw := hw.2 rfl
      cases s1
      · have hw := hw.2 rfl
        refine am_new (q := 10) (fs := [.null, .null, .null, .null, .null, .null, .null, .null, .int 0, .int 0, .int 0, .int 0, .int 0]) dX4_readyPlanner_8 cl_X1 wd_376 wd_377 wd_60 (fun j hj => by rcases (show j = 0 ∨ j = 1 ∨ j = 2 ∨ j = 3 ∨ j = 4 ∨ j = 5 ∨ j = 6 ∨ j = 7 ∨ j = 8 ∨ j = 9 ∨ j = 10 ∨ j = 11 ∨ j = 12 by omega) with rfl | rfl | rfl | rfl | rfl | rfl | rfl | rfl | rfl | rfl | rfl | rfl | rfl <;> rfl) (fun _ => rfl) rfl rfl rfl rfl ⟨Nat.le_of_ble_eq_true rfl, Nat.le_of_ble_eq_true rfl⟩ ?_
        refine am_dup dX4_readyPlanner_11 rfl ?_
        refine am_callI (is := [10, 11, 12, 13, 14, 15, 16, 17, 18, 19, 20, 21, 22, 23, 24, 25]) dX4_readyPlanner_12 q_X4_readyPlanner_175.1 rfl rfl q_X4_readyPlanner_175.2.1 q_X4_readyPlanner_175.2.2 sX1_init rfl rfl rfl (Nat.le_of_ble_eq_true rfl) rfl rfl (Nat.le_of_ble_eq_true rfl) (Nat.le_of_ble_eq_true rfl) rfl ⟨Nat.le_of_ble_eq_true rfl, Nat.le_of_ble_eq_true rfl⟩ (zN_ok fam_X1 rfl) ?_
        rintro v h1 ⟨rfl, rfl⟩ -
        refine am_hp (h2 := List.set (fX4 true false false (m0.1, m0.2.1, m0.2.2.1, (mu_set (mu_set (fun _ _ => 0) 20 (upd (fun _ => 0) 12 30)) 13 (upd (upd (fun _ => 0) 11 (-11)) 12 (-11))), m0.2.2.2.2)) 0 (some (.inr (.inr (4, [.ref 1, .ref 7, .ref 8, .null, .int m0.1]))))) (mk_10 _ _ _ _ _) ?_
        refine am_putf (v := .ref 10) dX4_readyPlanner_15 fp_X4_168 (fun z => by cases z) (fun _ => ⟨rfl, rfl⟩) rfl (Nat.le_of_ble_eq_true rfl) ?_
        refine am_hm (F := (fX4 true false false)) (m := (m0.1, m0.2.1, m0.2.2.1, (mu_set (mu_set (fun _ _ => 0) 20 (upd (fun _ => 0) 12 30)) 13 (upd (upd (fun _ => 0) 11 (-11)) 12 (-11))), m0.2.2.2.2)) rfl (fun m4 em4 => ?_)
        have hw := hw m4 em4
        refine am_aload_n dX4_readyPlanner_18 rfl ?_
        refine am_getf dX4_readyPlanner_19 fl_X4_168 rfl rfl ?_
        exact am_areturn dX4_readyPlanner_22 rfl ⟨_, rfl, rfl, hw⟩
      · have hw := hw.1 rfl
        refine am_new (q := 10) (fs := [.null, .null, .null, .null, .null, .null, .null, .null, .int 0, .int 0, .int 0, .int 0, .int 0]) dX4_readyPlanner_8 cl_X1 wd_376 wd_377 wd_60 (fun j hj => by rcases (show j = 0 ∨ j = 1 ∨ j = 2 ∨ j = 3 ∨ j = 4 ∨ j = 5 ∨ j = 6 ∨ j = 7 ∨ j = 8 ∨ j = 9 ∨ j = 10 ∨ j = 11 ∨ j = 12 by omega) with rfl | rfl | rfl | rfl | rfl | rfl | rfl | rfl | rfl | rfl | rfl | rfl | rfl <;> rfl) (fun _ => rfl) rfl rfl rfl rfl ⟨Nat.le_of_ble_eq_true rfl, Nat.le_of_ble_eq_true rfl⟩ ?_
        refine am_dup dX4_readyPlanner_11 rfl ?_
        refine am_callI (is := [10, 11, 12, 13, 14, 15, 16, 17, 18, 19, 20, 21, 22, 23, 24, 25]) dX4_readyPlanner_12 q_X4_readyPlanner_175.1 rfl rfl q_X4_readyPlanner_175.2.1 q_X4_readyPlanner_175.2.2 sX1_init rfl rfl rfl (Nat.le_of_ble_eq_true rfl) rfl rfl (Nat.le_of_ble_eq_true rfl) (Nat.le_of_ble_eq_true rfl) rfl ⟨Nat.le_of_ble_eq_true rfl, Nat.le_of_ble_eq_true rfl⟩ (zN_ok fam_X1 rfl) ?_
        rintro v h1 ⟨rfl, rfl⟩ -
        refine am_hp (h2 := List.set (fX4 true false true (m0.1, m0.2.1, m0.2.2.1, (mu_set (mu_set (fun _ _ => 0) 20 (upd (fun _ => 0) 12 30)) 13 (upd (upd (fun _ => 0) 11 (-11)) 12 (-11))), m0.2.2.2.2)) 0 (some (.inr (.inr (4, [.ref 1, .ref 7, .ref 8, .null, .int m0.1]))))) (mk_10 _ _ _ _ _) ?_
        refine am_putf (v := .ref 10) dX4_readyPlanner_15 fp_X4_168 (fun z => by cases z) (fun _ => ⟨rfl, rfl⟩) rfl (Nat.le_of_ble_eq_true rfl) ?_
        refine am_hm (F := (fX4 true false true)) (m := (m0.1, m0.2.1, m0.2.2.1, (mu_set (mu_set (fun _ _ => 0) 20 (upd (fun _ => 0) 12 30)) 13 (upd (upd (fun _ => 0) 11 (-11)) 12 (-11))), m0.2.2.2.2)) rfl (fun m3 em3 => ?_)
        have hw := hw m3 em3
        refine am_aload_n dX4_readyPlanner_18 rfl ?_
        refine am_getf dX4_readyPlanner_19 fl_X4_168 rfl rfl ?_
        exact am_areturn dX4_readyPlanner_22 rfl ⟨_, rfl, rfl, hw⟩
    · have hw := hw.1 rfl
      cases s1
      · have hw := hw.2 rfl
        refine am_new (q := 10) (fs := [.null, .null, .null, .null, .null, .null, .null, .null, .int 0, .int 0, .int 0, .int 0, .int 0]) dX4_readyPlanner_8 cl_X1 wd_376 wd_377 wd_60 (fun j hj => by rcases (show j = 0 ∨ j = 1 ∨ j = 2 ∨ j = 3 ∨ j = 4 ∨ j = 5 ∨ j = 6 ∨ j = 7 ∨ j = 8 ∨ j = 9 ∨ j = 10 ∨ j = 11 ∨ j = 12 by omega) with rfl | rfl | rfl | rfl | rfl | rfl | rfl | rfl | rfl | rfl | rfl | rfl | rfl <;> rfl) (fun _ => rfl) rfl rfl rfl rfl ⟨Nat.le_of_ble_eq_true rfl, Nat.le_of_ble_eq_true rfl⟩ ?_
        refine am_dup dX4_readyPlanner_11 rfl ?_
        refine am_callI (is := [10, 11, 12, 13, 14, 15, 16, 17, 18, 19, 20, 21, 22, 23, 24, 25]) dX4_readyPlanner_12 q_X4_readyPlanner_175.1 rfl rfl q_X4_readyPlanner_175.2.1 q_X4_readyPlanner_175.2.2 sX1_init rfl rfl rfl (Nat.le_of_ble_eq_true rfl) rfl rfl (Nat.le_of_ble_eq_true rfl) (Nat.le_of_ble_eq_true rfl) rfl ⟨Nat.le_of_ble_eq_true rfl, Nat.le_of_ble_eq_true rfl⟩ (zN_ok fam_X1 rfl) ?_
        rintro v h1 ⟨rfl, rfl⟩ -
        refine am_hp (h2 := List.set (fX4 true true false (m0.1, m0.2.1, m0.2.2.1, (mu_set (mu_set (fun _ _ => 0) 20 (upd (fun _ => 0) 12 30)) 13 (upd (upd (fun _ => 0) 11 (-11)) 12 (-11))), m0.2.2.2.2)) 0 (some (.inr (.inr (4, [.ref 1, .ref 7, .ref 8, .null, .int m0.1]))))) (mk_10 _ _ _ _ _) ?_
        refine am_putf (v := .ref 10) dX4_readyPlanner_15 fp_X4_168 (fun z => by cases z) (fun _ => ⟨rfl, rfl⟩) rfl (Nat.le_of_ble_eq_true rfl) ?_
        refine am_hm (F := (fX4 true true false)) (m := (m0.1, m0.2.1, m0.2.2.1, (mu_set (mu_set (fun _ _ => 0) 20 (upd (fun _ => 0) 12 30)) 13 (upd (upd (fun _ => 0) 11 (-11)) 12 (-11))), m0.2.2.2.2)) rfl (fun m2 em2 => ?_)
        have hw := hw m2 em2
        refine am_aload_n dX4_readyPlanner_18 rfl ?_
        refine am_getf dX4_readyPlanner_19 fl_X4_168 rfl rfl ?_
        exact am_areturn dX4_readyPlanner_22 rfl ⟨_, rfl, rfl, hw⟩
      · have hw := hw.1 rfl
        refine am_new (q := 10) (fs := [.null, .null, .null, .null, .null, .null, .null, .null, .int 0, .int 0, .int 0, .int 0, .int 0]) dX4_readyPlanner_8 cl_X1 wd_376 wd_377 wd_60 (fun j hj => by rcases (show j = 0 ∨ j = 1 ∨ j = 2 ∨ j = 3 ∨ j = 4 ∨ j = 5 ∨ j = 6 ∨ j = 7 ∨ j = 8 ∨ j = 9 ∨ j = 10 ∨ j = 11 ∨ j = 12 by omega) with rfl | rfl | rfl | rfl | rfl | rfl | rfl | rfl | rfl | rfl | rfl | rfl | rfl <;> rfl) (fun _ => rfl) rfl rfl rfl rfl ⟨Nat.le_of_ble_eq_true rfl, Nat.le_of_ble_eq_true rfl⟩ ?_
        refine am_dup dX4_readyPlanner_11 rfl ?_
        refine am_callI (is := [10, 11, 12, 13, 14, 15, 16, 17, 18, 19, 20, 21, 22, 23, 24, 25]) dX4_readyPlanner_12 q_X4_readyPlanner_175.1 rfl rfl q_X4_readyPlanner_175.2.1 q_X4_readyPlanner_175.2.2 sX1_init rfl rfl rfl (Nat.le_of_ble_eq_true rfl) rfl rfl (Nat.le_of_ble_eq_true rfl) (Nat.le_of_ble_eq_true rfl) rfl ⟨Nat.le_of_ble_eq_true rfl, Nat.le_of_ble_eq_true rfl⟩ (zN_ok fam_X1 rfl) ?_
        rintro v h1 ⟨rfl, rfl⟩ -
        refine am_hp (h2 := List.set (fX4 true true true (m0.1, m0.2.1, m0.2.2.1, (mu_set (mu_set (fun _ _ => 0) 20 (upd (fun _ => 0) 12 30)) 13 (upd (upd (fun _ => 0) 11 (-11)) 12 (-11))), m0.2.2.2.2)) 0 (some (.inr (.inr (4, [.ref 1, .ref 7, .ref 8, .null, .int m0.1]))))) (mk_10 _ _ _ _ _) ?_
        refine am_putf (v := .ref 10) dX4_readyPlanner_15 fp_X4_168 (fun z => by cases z) (fun _ => ⟨rfl, rfl⟩) rfl (Nat.le_of_ble_eq_true rfl) ?_
        refine am_hm (F := (fX4 true true true)) (m := (m0.1, m0.2.1, m0.2.2.1, (mu_set (mu_set (fun _ _ => 0) 20 (upd (fun _ => 0) 12 30)) 13 (upd (upd (fun _ => 0) 11 (-11)) 12 (-11))), m0.2.2.2.2)) rfl (fun m1 em1 => ?_)
        have hw := hw m1 em1
        refine am_aload_n dX4_readyPlanner_18 rfl ?_
        refine am_getf dX4_readyPlanner_19 fl_X4_168 rfl rfl ?_
        exact am_areturn dX4_readyPlanner_22 rfl ⟨_, rfl, rfl, hw⟩
  · have hw := hw.1 rfl
    refine am_getf dX4_readyPlanner_1 fl_X4_168 rfl rfl ?_
    refine am_ifnonnull 18 dX4_readyPlanner_4 (by decide) ?_
    refine am_aload_n dX4_readyPlanner_18 rfl ?_
    refine am_getf dX4_readyPlanner_19 fl_X4_168 rfl rfl ?_
    exact am_areturn dX4_readyPlanner_22 rfl ⟨_, rfl, rfl, hw⟩

def wX4_fewestTurns (a1 a2 : Int32) (hp s0 s1 : Bool) (m0 : HM) (K : Int32 → Bool → Bool → Bool → HM → Prop) : Prop := wX4_planError a1 a2 hp s0 s1 m0 (fun r1 : Int32 => ((r1 = 0 → wX4_readyPlanner hp s0 s1 m0 (fun m3 : HM => wX1_aimAt a1 a2 (mu_cat m3.2.2.2.1 50 m3.2.1) (fun k4 : Mu => ∀ m5 : HM, m5 = (m3.1, (mu_sub k4 50), m3.2.2.1, k4, m3.2.2.2.2.1, m3.2.2.2.2.2) → wX1_bestCost (mu_cat m5.2.2.2.1 50 m5.2.1) (fun (r8 : Int32) (k6 : Mu) => ∀ m7 : HM, m7 = (m5.1, (mu_sub k6 50), m5.2.2.1, k6, m5.2.2.2.2.1, m5.2.2.2.2.2) → ((r8 = (1000000000 : Int32) → K (-11 : Int32) true s0 s1 m7) ∧ (¬ r8 = (1000000000 : Int32) → K (r8 / (10000 : Int32)) true s0 s1 m7)))))) ∧ (¬ r1 = 0 → K r1 hp s0 s1 m0)))
set_option maxRecDepth 20000 in
theorem sX4_fewestTurns {hp s0 s1 : Bool} {a1 a2 : Int32} {m0 : HM} {K : Int32 → Bool → Bool → Bool → HM → Prop} (hw : wX4_fewestTurns a1 a2 hp s0 s1 m0 K) : am_Met mX4_fewestTurns [.ref 0, .int a1, .int a2] ((fX4 hp s0 s1) m0) 16 12311 (zH K) := by
  unfold wX4_fewestTurns at hw
  refine am_Met.of2 (ls := [some (.ref 0), some (.int a1), some (.int a2), none, none, none]) pf_X4_fewestTurns rfl rfl rfl rfl ?_
  refine am_aload_n dX4_fewestTurns_0 rfl ?_
  refine am_iload_n dX4_fewestTurns_1 rfl ?_
  refine am_iload_n dX4_fewestTurns_2 rfl ?_
  refine am_selfP4  dX4_fewestTurns_3 q_X4_fewestTurns_117 rfl (sX4_planError hw) rfl rfl rfl rfl rfl rfl (fun r1 hw => ?_)
  refine am_istore_n' (ls' := [some (.ref 0), some (.int a1), some (.int a2), some (.int r1), none, none]) dX4_fewestTurns_6 rfl rfl rfl ?_
  refine am_iload_n dX4_fewestTurns_7 rfl ?_
  refine am_if_eq 13 dX4_fewestTurns_8 (by decide) (fun c2 => ?_) (fun c2 => ?_)
  · have hw := hw.1 c2
    refine am_aload_n dX4_fewestTurns_13 rfl ?_
    refine am_ready dX4_fewestTurns_14 q_X4_fewestTurns_120 (sX4_readyPlanner hw) rfl rfl rfl ⟨Nat.le_of_ble_eq_true rfl, Nat.le_of_ble_eq_true rfl⟩ (fun m3 hw => ?_)
    refine am_astore' (ls' := [some (.ref 0), some (.int a1), some (.int a2), some (.int r1), some (.ref 10), none]) dX4_fewestTurns_17 rfl rfl rfl ?_
    refine am_aload dX4_fewestTurns_19 rfl ?_
    refine am_aload_n dX4_fewestTurns_21 rfl ?_
    refine am_getf dX4_fewestTurns_22 fl_X4_12 rfl rfl ?_
    refine am_iload_n dX4_fewestTurns_25 rfl ?_
    refine am_iload_n dX4_fewestTurns_26 rfl ?_
    refine am_partU [10, 11, 12, 13, 14, 15, 16, 17, 18, 19, 20, 21, 22, 23, 24, 25, 1, 2, 3, 4, 5, 6] fam_X1Y dX4_fewestTurns_27 q_X4_fewestTurns_124 rfl (sX1_aimAt hw) rfl rfl rfl rfl rfl rfl rfl rfl rfl (fun k4 hw => ?_)
    refine am_hm (F := (fX4 true s0 s1)) (m := (m3.1, (mu_sub k4 50), m3.2.2.1, k4, m3.2.2.2.2.1, m3.2.2.2.2.2)) (pt_10_1_X1Y _ _ _ _) (fun m5 em5 => ?_)
    have hw := hw m5 em5
    refine am_aload dX4_fewestTurns_30 rfl ?_
    refine am_aload_n dX4_fewestTurns_32 rfl ?_
    refine am_getf dX4_fewestTurns_33 fl_X4_12 rfl rfl ?_
    refine am_partI [10, 11, 12, 13, 14, 15, 16, 17, 18, 19, 20, 21, 22, 23, 24, 25, 1, 2, 3, 4, 5, 6] fam_X1Y dX4_fewestTurns_36 q_X4_fewestTurns_130 rfl (sX1_bestCost hw) rfl rfl rfl rfl rfl rfl rfl rfl rfl (fun r8 k6 hw => ?_)
    refine am_hm (F := (fX4 true s0 s1)) (m := (m5.1, (mu_sub k6 50), m5.2.2.1, k6, m5.2.2.2.2.1, m5.2.2.2.2.2)) (pt_10_1_X1Y _ _ _ _) (fun m7 em7 => ?_)
    have hw := hw m7 em7
    refine am_istore' (ls' := [some (.ref 0), some (.int a1), some (.int a2), some (.int r1), some (.ref 10), some (.int r8)]) dX4_fewestTurns_39 rfl rfl rfl ?_
    refine am_iload dX4_fewestTurns_41 rfl ?_
    refine am_ldc dX4_fewestTurns_43 wd_564 ?_
    refine am_icmp_ne 53 dX4_fewestTurns_45 (by decide) (fun c9 => ?_) (fun c9 => ?_)
    · have hw := hw.1 c9
      refine am_bipush dX4_fewestTurns_48 bc_m11 ?_
      refine am_goto 59 dX4_fewestTurns_50 (by decide) ?_
      exact am_ireturn dX4_fewestTurns_59 rfl ⟨_, _, _, _, _, rfl, rfl, hw⟩
    · have hw := hw.2 c9
      refine am_iload dX4_fewestTurns_53 rfl ?_
      refine am_sipush dX4_fewestTurns_55 sc_10000 ?_
      refine am_idiv dX4_fewestTurns_58 nz_10000 ?_
      exact am_ireturn dX4_fewestTurns_59 rfl ⟨_, _, _, _, _, rfl, rfl, hw⟩
  · have hw := hw.2 c2
    refine am_iload_n dX4_fewestTurns_11 rfl ?_
    exact am_ireturn dX4_fewestTurns_12 rfl ⟨_, _, _, _, _, rfl, rfl, hw⟩

def wX4_plan (a1 a2 a3 : Int32) (hp s0 s1 : Bool) (m0 : HM) (K : Int32 → Bool → Bool → Bool → HM → Prop) : Prop := wX4_planError a1 a2 hp s0 s1 m0 (fun r1 : Int32 => ((r1 = 0 → wX4_readyPlanner hp s0 s1 m0 (fun m3 : HM => wX1_aimAt a1 a2 (mu_cat m3.2.2.2.1 50 m3.2.1) (fun k4 : Mu => ∀ m5 : HM, m5 = (m3.1, (mu_sub k4 50), m3.2.2.1, k4, m3.2.2.2.2.1, m3.2.2.2.2.2) → wX1_bestCost (mu_cat m5.2.2.2.1 50 m5.2.1) (fun (r8 : Int32) (k6 : Mu) => ∀ m7 : HM, m7 = (m5.1, (mu_sub k6 50), m5.2.2.1, k6, m5.2.2.2.2.1, m5.2.2.2.2.2) → ((r8 = (1000000000 : Int32) → K (-11 : Int32) true s0 s1 m7) ∧ (¬ r8 = (1000000000 : Int32) → (((-1 : Int32) ≤ a3 → ((a3 = (-1 : Int32) → K (am_rem r8 (10000 : Int32)) true s0 s1 m7) ∧ (¬ a3 = (-1 : Int32) → wX1_actionAt a3 (mu_cat m7.2.2.2.1 50 m7.2.1) (fun (r14 : Int32) (k12 : Mu) => ∀ m13 : HM, m13 = (m7.1, (mu_sub k12 50), m7.2.2.1, k12, m7.2.2.2.2.1, m7.2.2.2.2.2) → K r14 true s0 s1 m13)))) ∧ (¬ (-1 : Int32) ≤ a3 → K (-11 : Int32) true s0 s1 m7)))))))) ∧ (¬ r1 = 0 → K r1 hp s0 s1 m0)))
set_option maxRecDepth 20000 in
theorem sX4_plan {hp s0 s1 : Bool} {a1 a2 a3 : Int32} {m0 : HM} {K : Int32 → Bool → Bool → Bool → HM → Prop} (hw : wX4_plan a1 a2 a3 hp s0 s1 m0 K) : am_Met mX4_plan [.ref 0, .int a1, .int a2, .int a3] ((fX4 hp s0 s1) m0) 16 12311 (zH K) := by
  unfold wX4_plan at hw
  refine am_Met.of2 (ls := [some (.ref 0), some (.int a1), some (.int a2), some (.int a3), none, none, none]) pf_X4_plan rfl rfl rfl rfl ?_
  refine am_aload_n dX4_plan_0 rfl ?_
  refine am_iload_n dX4_plan_1 rfl ?_
  refine am_iload_n dX4_plan_2 rfl ?_
  refine am_selfP4  dX4_plan_3 q_X4_plan_117 rfl (sX4_planError hw) rfl rfl rfl rfl rfl rfl (fun r1 hw => ?_)
  refine am_istore' (ls' := [some (.ref 0), some (.int a1), some (.int a2), some (.int a3), some (.int r1), none, none]) dX4_plan_6 rfl rfl rfl ?_
  refine am_iload dX4_plan_8 rfl ?_
  refine am_if_eq 16 dX4_plan_10 (by decide) (fun c2 => ?_) (fun c2 => ?_)
  · have hw := hw.1 c2
    refine am_aload_n dX4_plan_16 rfl ?_
    refine am_ready dX4_plan_17 q_X4_plan_120 (sX4_readyPlanner hw) rfl rfl rfl ⟨Nat.le_of_ble_eq_true rfl, Nat.le_of_ble_eq_true rfl⟩ (fun m3 hw => ?_)
    refine am_astore' (ls' := [some (.ref 0), some (.int a1), some (.int a2), some (.int a3), some (.int r1), some (.ref 10), none]) dX4_plan_20 rfl rfl rfl ?_
    refine am_aload dX4_plan_22 rfl ?_
    refine am_aload_n dX4_plan_24 rfl ?_
    refine am_getf dX4_plan_25 fl_X4_12 rfl rfl ?_
    refine am_iload_n dX4_plan_28 rfl ?_
    refine am_iload_n dX4_plan_29 rfl ?_
    refine am_partU [10, 11, 12, 13, 14, 15, 16, 17, 18, 19, 20, 21, 22, 23, 24, 25, 1, 2, 3, 4, 5, 6] fam_X1Y dX4_plan_30 q_X4_plan_124 rfl (sX1_aimAt hw) rfl rfl rfl rfl rfl rfl rfl rfl rfl (fun k4 hw => ?_)
    refine am_hm (F := (fX4 true s0 s1)) (m := (m3.1, (mu_sub k4 50), m3.2.2.1, k4, m3.2.2.2.2.1, m3.2.2.2.2.2)) (pt_10_1_X1Y _ _ _ _) (fun m5 em5 => ?_)
    have hw := hw m5 em5
    refine am_aload dX4_plan_33 rfl ?_
    refine am_aload_n dX4_plan_35 rfl ?_
    refine am_getf dX4_plan_36 fl_X4_12 rfl rfl ?_
    refine am_partI [10, 11, 12, 13, 14, 15, 16, 17, 18, 19, 20, 21, 22, 23, 24, 25, 1, 2, 3, 4, 5, 6] fam_X1Y dX4_plan_39 q_X4_plan_130 rfl (sX1_bestCost hw) rfl rfl rfl rfl rfl rfl rfl rfl rfl (fun r8 k6 hw => ?_)
    refine am_hm (F := (fX4 true s0 s1)) (m := (m5.1, (mu_sub k6 50), m5.2.2.1, k6, m5.2.2.2.2.1, m5.2.2.2.2.2)) (pt_10_1_X1Y _ _ _ _) (fun m7 em7 => ?_)
    have hw := hw m7 em7
    refine am_istore' (ls' := [some (.ref 0), some (.int a1), some (.int a2), some (.int a3), some (.int r1), some (.ref 10), some (.int r8)]) dX4_plan_42 rfl rfl rfl ?_
    refine am_iload dX4_plan_44 rfl ?_
    refine am_ldc dX4_plan_46 wd_564 ?_
    refine am_icmp_eq 56 dX4_plan_48 (by decide) (fun c9 => ?_) (fun c9 => ?_)
    · have hw := hw.1 c9
      refine am_bipush dX4_plan_56 bc_m11 ?_
      exact am_ireturn dX4_plan_58 rfl ⟨_, _, _, _, _, rfl, rfl, hw⟩
    · have hw := hw.2 c9
      refine am_iload_n dX4_plan_51 rfl ?_
      refine am_iconst dX4_plan_52 ic_m1 ?_
      refine am_icmp_ge 59 dX4_plan_53 (by decide) (fun c10 => ?_) (fun c10 => ?_)
      · have hw := hw.1 c10
        refine am_iload_n dX4_plan_59 rfl ?_
        refine am_iconst dX4_plan_60 ic_m1 ?_
        refine am_icmp_ne 73 dX4_plan_61 (by decide) (fun c11 => ?_) (fun c11 => ?_)
        · have hw := hw.1 c11
          refine am_iload dX4_plan_64 rfl ?_
          refine am_sipush dX4_plan_66 sc_10000 ?_
          refine am_irem' dX4_plan_69 nz_10000 ?_
          refine am_goto 83 dX4_plan_70 (by decide) ?_
          exact am_ireturn dX4_plan_83 rfl ⟨_, _, _, _, _, rfl, rfl, hw⟩
        · have hw := hw.2 c11
          refine am_aload dX4_plan_73 rfl ?_
          refine am_aload_n dX4_plan_75 rfl ?_
          refine am_getf dX4_plan_76 fl_X4_12 rfl rfl ?_
          refine am_iload_n dX4_plan_79 rfl ?_
          refine am_partI [10, 11, 12, 13, 14, 15, 16, 17, 18, 19, 20, 21, 22, 23, 24, 25, 1, 2, 3, 4, 5, 6] fam_X1Y dX4_plan_80 q_X4_plan_135 rfl (sX1_actionAt hw) rfl rfl rfl rfl rfl rfl rfl rfl rfl (fun r14 k12 hw => ?_)
          refine am_hm (F := (fX4 true s0 s1)) (m := (m7.1, (mu_sub k12 50), m7.2.2.1, k12, m7.2.2.2.2.1, m7.2.2.2.2.2)) (pt_10_1_X1Y _ _ _ _) (fun m13 em13 => ?_)
          have hw := hw m13 em13
          exact am_ireturn dX4_plan_83 rfl ⟨_, _, _, _, _, rfl, rfl, hw⟩
      · have hw := hw.2 c10
        refine am_bipush dX4_plan_56 bc_m11 ?_
        exact am_ireturn dX4_plan_58 rfl ⟨_, _, _, _, _, rfl, rfl, hw⟩
  · have hw := hw.2 c2
    refine am_iload dX4_plan_13 rfl ?_
    exact am_ireturn dX4_plan_15 rfl ⟨_, _, _, _, _, rfl, rfl, hw⟩

def wX4_save (a1 : Int32) (hp s0 s1 : Bool) (m0 : HM) (K : Int32 → Bool → Bool → Bool → HM → Prop) : Prop := wX4_isSlot a1 (fun r1 : Int32 => ((r1 = 0 → K (-4 : Int32) hp s0 s1 m0) ∧ (¬ r1 = 0 → ((a1 = 0 ∨ a1 = 1) ∧ (a1 = 0 → ((s0 = true → wX3_copyFrom (mu_cat m0.2.2.2.2.1 10 m0.2.1) (fun k3 : Mu => ∀ m4 : HM, m4 = (m0.1, (mu_sub k3 10), m0.2.2.1, m0.2.2.2.1, k3, m0.2.2.2.2.2) → K (m4.2.1 8 5) hp true s1 m4)) ∧ (s0 = false → ((hp = true → ((s1 = true → ∀ m5 : HM, m5 = (m0.1, m0.2.1, m0.2.2.1, m0.2.2.2.1, (mu_set (fun _ _ => 0) 0 (upd (fun _ => 0) 12 30)), m0.2.2.2.2.2) → wX3_copyFrom (mu_cat m5.2.2.2.2.1 10 m5.2.1) (fun k6 : Mu => ∀ m7 : HM, m7 = (m5.1, (mu_sub k6 10), m5.2.2.1, m5.2.2.2.1, k6, m5.2.2.2.2.2) → K (m7.2.1 8 5) true true true m7)) ∧ (s1 = false → ∀ m8 : HM, m8 = (m0.1, m0.2.1, m0.2.2.1, m0.2.2.2.1, (mu_set (fun _ _ => 0) 0 (upd (fun _ => 0) 12 30)), m0.2.2.2.2.2) → wX3_copyFrom (mu_cat m8.2.2.2.2.1 10 m8.2.1) (fun k9 : Mu => ∀ m10 : HM, m10 = (m8.1, (mu_sub k9 10), m8.2.2.1, m8.2.2.2.1, k9, m8.2.2.2.2.2) → K (m10.2.1 8 5) true true false m10)))) ∧ (hp = false → ((s1 = true → ∀ m11 : HM, m11 = (m0.1, m0.2.1, m0.2.2.1, m0.2.2.2.1, (mu_set (fun _ _ => 0) 0 (upd (fun _ => 0) 12 30)), m0.2.2.2.2.2) → wX3_copyFrom (mu_cat m11.2.2.2.2.1 10 m11.2.1) (fun k12 : Mu => ∀ m13 : HM, m13 = (m11.1, (mu_sub k12 10), m11.2.2.1, m11.2.2.2.1, k12, m11.2.2.2.2.2) → K (m13.2.1 8 5) false true true m13)) ∧ (s1 = false → ∀ m14 : HM, m14 = (m0.1, m0.2.1, m0.2.2.1, m0.2.2.2.1, (mu_set (fun _ _ => 0) 0 (upd (fun _ => 0) 12 30)), m0.2.2.2.2.2) → wX3_copyFrom (mu_cat m14.2.2.2.2.1 10 m14.2.1) (fun k15 : Mu => ∀ m16 : HM, m16 = (m14.1, (mu_sub k15 10), m14.2.2.1, m14.2.2.2.1, k15, m14.2.2.2.2.2) → K (m16.2.1 8 5) false true false m16)))))))) ∧ (a1 = 1 → ((s1 = true → wX3_copyFrom (mu_cat m0.2.2.2.2.2 10 m0.2.1) (fun k17 : Mu => ∀ m18 : HM, m18 = (m0.1, (mu_sub k17 10), m0.2.2.1, m0.2.2.2.1, m0.2.2.2.2.1, k17) → K (m18.2.1 8 5) hp s0 true m18)) ∧ (s1 = false → ((hp = true → ((s0 = true → ∀ m19 : HM, m19 = (m0.1, m0.2.1, m0.2.2.1, m0.2.2.2.1, m0.2.2.2.2.1, (mu_set (fun _ _ => 0) 0 (upd (fun _ => 0) 12 30))) → wX3_copyFrom (mu_cat m19.2.2.2.2.2 10 m19.2.1) (fun k20 : Mu => ∀ m21 : HM, m21 = (m19.1, (mu_sub k20 10), m19.2.2.1, m19.2.2.2.1, m19.2.2.2.2.1, k20) → K (m21.2.1 8 5) true true true m21)) ∧ (s0 = false → ∀ m22 : HM, m22 = (m0.1, m0.2.1, m0.2.2.1, m0.2.2.2.1, m0.2.2.2.2.1, (mu_set (fun _ _ => 0) 0 (upd (fun _ => 0) 12 30))) → wX3_copyFrom (mu_cat m22.2.2.2.2.2 10 m22.2.1) (fun k23 : Mu => ∀ m24 : HM, m24 = (m22.1, (mu_sub k23 10), m22.2.2.1, m22.2.2.2.1, m22.2.2.2.2.1, k23) → K (m24.2.1 8 5) true false true m24)))) ∧ (hp = false → ((s0 = true → ∀ m25 : HM, m25 = (m0.1, m0.2.1, m0.2.2.1, m0.2.2.2.1, m0.2.2.2.2.1, (mu_set (fun _ _ => 0) 0 (upd (fun _ => 0) 12 30))) → wX3_copyFrom (mu_cat m25.2.2.2.2.2 10 m25.2.1) (fun k26 : Mu => ∀ m27 : HM, m27 = (m25.1, (mu_sub k26 10), m25.2.2.1, m25.2.2.2.1, m25.2.2.2.2.1, k26) → K (m27.2.1 8 5) false true true m27)) ∧ (s0 = false → ∀ m28 : HM, m28 = (m0.1, m0.2.1, m0.2.2.1, m0.2.2.2.1, m0.2.2.2.2.1, (mu_set (fun _ _ => 0) 0 (upd (fun _ => 0) 12 30))) → wX3_copyFrom (mu_cat m28.2.2.2.2.2 10 m28.2.1) (fun k29 : Mu => ∀ m30 : HM, m30 = (m28.1, (mu_sub k29 10), m28.2.2.1, m28.2.2.2.1, m28.2.2.2.2.1, k29) → K (m30.2.1 8 5) false false true m30))))))))))))
set_option maxRecDepth 20000 in
theorem sX4_save {hp s0 s1 : Bool} {a1 : Int32} {m0 : HM} {K : Int32 → Bool → Bool → Bool → HM → Prop} (hw : wX4_save a1 hp s0 s1 m0 K) : am_Met mX4_save [.ref 0, .int a1] ((fX4 hp s0 s1) m0) 6 159 (zH K) := by
  unfold wX4_save at hw
  refine am_Met.of2 (ls := [some (.ref 0), some (.int a1), none]) pf_X4_save rfl rfl rfl rfl ?_
  refine am_iload_n dX4_save_0 rfl ?_
  refine am_stS dX4_save_1 q_X4_save_139 (sX4_isSlot hw) rfl rfl rfl rfl (fun r1 hw => ?_)
  refine am_if_ne 10 dX4_save_4 (by decide) (fun c2 => ?_) (fun c2 => ?_)
  · have hw := hw.1 c2
    refine am_bipush dX4_save_7 bc_m4 ?_
    exact am_ireturn dX4_save_9 rfl ⟨_, _, _, _, _, rfl, rfl, hw⟩
  · have hw := hw.2 c2
    refine am_aload_n dX4_save_10 rfl ?_
    refine am_getf dX4_save_11 fl_X4_16 rfl rfl ?_
    refine am_iload_n dX4_save_14 rfl ?_
    rcases hw.1 with e9 | e9
    · subst e9; have hw := hw.2.1 rfl
      cases s0
      · have hw := hw.2 rfl
        refine am_aaload (o := none) dX4_save_15 rfl vi_0 rfl ?_
        refine am_astore_nN' (ls' := [some (.ref 0), some (.int (0 : Int32)), some .null]) dX4_save_16 rfl rfl rfl ?_
        refine am_aload_nN dX4_save_17 rfl ?_
        refine am_ifnonnullN dX4_save_18 ?_
        cases hp
        · have hw := hw.2 rfl
          cases s1
          · have hw := hw.2 rfl
            refine am_new (q := 26) (fs := [.null, .null, .null, .null, .null, .int 0, .int 0, .int 0]) dX4_save_21 cl_X3 wd_73 wd_74 wd_56 (fun j hj => by rcases (show j = 0 ∨ j = 1 ∨ j = 2 ∨ j = 3 ∨ j = 4 ∨ j = 5 ∨ j = 6 ∨ j = 7 by omega) with rfl | rfl | rfl | rfl | rfl | rfl | rfl | rfl <;> rfl) (fun _ => rfl) rfl rfl rfl rfl ⟨Nat.le_of_ble_eq_true rfl, Nat.le_of_ble_eq_true rfl⟩ ?_
            refine am_dup dX4_save_24 rfl ?_
            refine am_callI (is := [26, 27, 28, 29, 30, 31]) dX4_save_25 q_X4_save_11.1 rfl rfl q_X4_save_11.2.1 q_X4_save_11.2.2 sX3_init rfl rfl rfl (Nat.le_of_ble_eq_true rfl) rfl rfl (Nat.le_of_ble_eq_true rfl) (Nat.le_of_ble_eq_true rfl) rfl ⟨Nat.le_of_ble_eq_true rfl, Nat.le_of_ble_eq_true rfl⟩ (zN_ok fam_X3 rfl) ?_
            rintro v h1 ⟨rfl, rfl⟩ -
            refine am_hp (h2 := List.set (fX4 false true false (m0.1, m0.2.1, m0.2.2.1, m0.2.2.2.1, (mu_set (fun _ _ => 0) 0 (upd (fun _ => 0) 12 30)), m0.2.2.2.2.2)) 7 (some (.inr (.inl [none, none])))) (mk_26 _ _ _ _ _) ?_
            refine am_astore_n' (ls' := [some (.ref 0), some (.int (0 : Int32)), some (.ref 26)]) dX4_save_28 rfl rfl rfl ?_
            refine am_aload_n dX4_save_29 rfl ?_
            refine am_getf dX4_save_30 fl_X4_16 rfl rfl ?_
            refine am_iload_n dX4_save_33 rfl ?_
            refine am_aload_n dX4_save_34 rfl ?_
            refine am_aastore dX4_save_35 rfl rfl vi_0 ?_
            refine am_hm (F := (fX4 false true false)) (m := (m0.1, m0.2.1, m0.2.2.1, m0.2.2.2.1, (mu_set (fun _ _ => 0) 0 (upd (fun _ => 0) 12 30)), m0.2.2.2.2.2)) rfl (fun m14 em14 => ?_)
            have hw := hw m14 em14
            refine am_aload_n dX4_save_36 rfl ?_
            refine am_aload_n dX4_save_37 rfl ?_
            refine am_getf dX4_save_38 fl_X4_12 rfl rfl ?_
            refine am_partU [26, 27, 28, 29, 30, 31, 1, 2, 3, 4, 5, 6] fam_X3Y dX4_save_41 q_X4_save_142 rfl (sX3_copyFrom hw) rfl rfl rfl rfl rfl rfl rfl rfl rfl (fun k15 hw => ?_)
            refine am_hm (F := (fX4 false true false)) (m := (m14.1, (mu_sub k15 10), m14.2.2.1, m14.2.2.2.1, k15, m14.2.2.2.2.2)) (pt_26_1_X3Y _ _ _ _) (fun m16 em16 => ?_)
            have hw := hw m16 em16
            refine am_aload_n dX4_save_44 rfl ?_
            refine am_getf dX4_save_45 fl_X4_12 rfl rfl ?_
            refine am_getf dX4_save_48 fl_X4_42 rfl rfl ?_
            exact am_ireturn dX4_save_51 rfl ⟨_, _, _, _, _, rfl, rfl, hw⟩
          · have hw := hw.1 rfl
            refine am_new (q := 26) (fs := [.null, .null, .null, .null, .null, .int 0, .int 0, .int 0]) dX4_save_21 cl_X3 wd_73 wd_74 wd_56 (fun j hj => by rcases (show j = 0 ∨ j = 1 ∨ j = 2 ∨ j = 3 ∨ j = 4 ∨ j = 5 ∨ j = 6 ∨ j = 7 by omega) with rfl | rfl | rfl | rfl | rfl | rfl | rfl | rfl <;> rfl) (fun _ => rfl) rfl rfl rfl rfl ⟨Nat.le_of_ble_eq_true rfl, Nat.le_of_ble_eq_true rfl⟩ ?_
            refine am_dup dX4_save_24 rfl ?_
            refine am_callI (is := [26, 27, 28, 29, 30, 31]) dX4_save_25 q_X4_save_11.1 rfl rfl q_X4_save_11.2.1 q_X4_save_11.2.2 sX3_init rfl rfl rfl (Nat.le_of_ble_eq_true rfl) rfl rfl (Nat.le_of_ble_eq_true rfl) (Nat.le_of_ble_eq_true rfl) rfl ⟨Nat.le_of_ble_eq_true rfl, Nat.le_of_ble_eq_true rfl⟩ (zN_ok fam_X3 rfl) ?_
            rintro v h1 ⟨rfl, rfl⟩ -
            refine am_hp (h2 := List.set (fX4 false true true (m0.1, m0.2.1, m0.2.2.1, m0.2.2.2.1, (mu_set (fun _ _ => 0) 0 (upd (fun _ => 0) 12 30)), m0.2.2.2.2.2)) 7 (some (.inr (.inl [none, (some 32)])))) (mk_26 _ _ _ _ _) ?_
            refine am_astore_n' (ls' := [some (.ref 0), some (.int (0 : Int32)), some (.ref 26)]) dX4_save_28 rfl rfl rfl ?_
            refine am_aload_n dX4_save_29 rfl ?_
            refine am_getf dX4_save_30 fl_X4_16 rfl rfl ?_
            refine am_iload_n dX4_save_33 rfl ?_
            refine am_aload_n dX4_save_34 rfl ?_
            refine am_aastore dX4_save_35 rfl rfl vi_0 ?_
            refine am_hm (F := (fX4 false true true)) (m := (m0.1, m0.2.1, m0.2.2.1, m0.2.2.2.1, (mu_set (fun _ _ => 0) 0 (upd (fun _ => 0) 12 30)), m0.2.2.2.2.2)) rfl (fun m11 em11 => ?_)
            have hw := hw m11 em11
            refine am_aload_n dX4_save_36 rfl ?_
            refine am_aload_n dX4_save_37 rfl ?_
            refine am_getf dX4_save_38 fl_X4_12 rfl rfl ?_
            refine am_partU [26, 27, 28, 29, 30, 31, 1, 2, 3, 4, 5, 6] fam_X3Y dX4_save_41 q_X4_save_142 rfl (sX3_copyFrom hw) rfl rfl rfl rfl rfl rfl rfl rfl rfl (fun k12 hw => ?_)
            refine am_hm (F := (fX4 false true true)) (m := (m11.1, (mu_sub k12 10), m11.2.2.1, m11.2.2.2.1, k12, m11.2.2.2.2.2)) (pt_26_1_X3Y _ _ _ _) (fun m13 em13 => ?_)
            have hw := hw m13 em13
            refine am_aload_n dX4_save_44 rfl ?_
            refine am_getf dX4_save_45 fl_X4_12 rfl rfl ?_
            refine am_getf dX4_save_48 fl_X4_42 rfl rfl ?_
            exact am_ireturn dX4_save_51 rfl ⟨_, _, _, _, _, rfl, rfl, hw⟩
        · have hw := hw.1 rfl
          cases s1
          · have hw := hw.2 rfl
            refine am_new (q := 26) (fs := [.null, .null, .null, .null, .null, .int 0, .int 0, .int 0]) dX4_save_21 cl_X3 wd_73 wd_74 wd_56 (fun j hj => by rcases (show j = 0 ∨ j = 1 ∨ j = 2 ∨ j = 3 ∨ j = 4 ∨ j = 5 ∨ j = 6 ∨ j = 7 by omega) with rfl | rfl | rfl | rfl | rfl | rfl | rfl | rfl <;> rfl) (fun _ => rfl) rfl rfl rfl rfl ⟨Nat.le_of_ble_eq_true rfl, Nat.le_of_ble_eq_true rfl⟩ ?_
            refine am_dup dX4_save_24 rfl ?_
            refine am_callI (is := [26, 27, 28, 29, 30, 31]) dX4_save_25 q_X4_save_11.1 rfl rfl q_X4_save_11.2.1 q_X4_save_11.2.2 sX3_init rfl rfl rfl (Nat.le_of_ble_eq_true rfl) rfl rfl (Nat.le_of_ble_eq_true rfl) (Nat.le_of_ble_eq_true rfl) rfl ⟨Nat.le_of_ble_eq_true rfl, Nat.le_of_ble_eq_true rfl⟩ (zN_ok fam_X3 rfl) ?_
            rintro v h1 ⟨rfl, rfl⟩ -
            refine am_hp (h2 := List.set (fX4 true true false (m0.1, m0.2.1, m0.2.2.1, m0.2.2.2.1, (mu_set (fun _ _ => 0) 0 (upd (fun _ => 0) 12 30)), m0.2.2.2.2.2)) 7 (some (.inr (.inl [none, none])))) (mk_26 _ _ _ _ _) ?_
            refine am_astore_n' (ls' := [some (.ref 0), some (.int (0 : Int32)), some (.ref 26)]) dX4_save_28 rfl rfl rfl ?_
            refine am_aload_n dX4_save_29 rfl ?_
            refine am_getf dX4_save_30 fl_X4_16 rfl rfl ?_
            refine am_iload_n dX4_save_33 rfl ?_
            refine am_aload_n dX4_save_34 rfl ?_
            refine am_aastore dX4_save_35 rfl rfl vi_0 ?_
            refine am_hm (F := (fX4 true true false)) (m := (m0.1, m0.2.1, m0.2.2.1, m0.2.2.2.1, (mu_set (fun _ _ => 0) 0 (upd (fun _ => 0) 12 30)), m0.2.2.2.2.2)) rfl (fun m8 em8 => ?_)
            have hw := hw m8 em8
            refine am_aload_n dX4_save_36 rfl ?_
            refine am_aload_n dX4_save_37 rfl ?_
            refine am_getf dX4_save_38 fl_X4_12 rfl rfl ?_
            refine am_partU [26, 27, 28, 29, 30, 31, 1, 2, 3, 4, 5, 6] fam_X3Y dX4_save_41 q_X4_save_142 rfl (sX3_copyFrom hw) rfl rfl rfl rfl rfl rfl rfl rfl rfl (fun k9 hw => ?_)
            refine am_hm (F := (fX4 true true false)) (m := (m8.1, (mu_sub k9 10), m8.2.2.1, m8.2.2.2.1, k9, m8.2.2.2.2.2)) (pt_26_1_X3Y _ _ _ _) (fun m10 em10 => ?_)
            have hw := hw m10 em10
            refine am_aload_n dX4_save_44 rfl ?_
            refine am_getf dX4_save_45 fl_X4_12 rfl rfl ?_
            refine am_getf dX4_save_48 fl_X4_42 rfl rfl ?_
            exact am_ireturn dX4_save_51 rfl ⟨_, _, _, _, _, rfl, rfl, hw⟩
          · have hw := hw.1 rfl
            refine am_new (q := 26) (fs := [.null, .null, .null, .null, .null, .int 0, .int 0, .int 0]) dX4_save_21 cl_X3 wd_73 wd_74 wd_56 (fun j hj => by rcases (show j = 0 ∨ j = 1 ∨ j = 2 ∨ j = 3 ∨ j = 4 ∨ j = 5 ∨ j = 6 ∨ j = 7 by omega) with rfl | rfl | rfl | rfl | rfl | rfl | rfl | rfl <;> rfl) (fun _ => rfl) rfl rfl rfl rfl ⟨Nat.le_of_ble_eq_true rfl, Nat.le_of_ble_eq_true rfl⟩ ?_
            refine am_dup dX4_save_24 rfl ?_
            refine am_callI (is := [26, 27, 28, 29, 30, 31]) dX4_save_25 q_X4_save_11.1 rfl rfl q_X4_save_11.2.1 q_X4_save_11.2.2 sX3_init rfl rfl rfl (Nat.le_of_ble_eq_true rfl) rfl rfl (Nat.le_of_ble_eq_true rfl) (Nat.le_of_ble_eq_true rfl) rfl ⟨Nat.le_of_ble_eq_true rfl, Nat.le_of_ble_eq_true rfl⟩ (zN_ok fam_X3 rfl) ?_
            rintro v h1 ⟨rfl, rfl⟩ -
            refine am_hp (h2 := List.set (fX4 true true true (m0.1, m0.2.1, m0.2.2.1, m0.2.2.2.1, (mu_set (fun _ _ => 0) 0 (upd (fun _ => 0) 12 30)), m0.2.2.2.2.2)) 7 (some (.inr (.inl [none, (some 32)])))) (mk_26 _ _ _ _ _) ?_
            refine am_astore_n' (ls' := [some (.ref 0), some (.int (0 : Int32)), some (.ref 26)]) dX4_save_28 rfl rfl rfl ?_
            refine am_aload_n dX4_save_29 rfl ?_
            refine am_getf dX4_save_30 fl_X4_16 rfl rfl ?_
            refine am_iload_n dX4_save_33 rfl ?_
            refine am_aload_n dX4_save_34 rfl ?_
            refine am_aastore dX4_save_35 rfl rfl vi_0 ?_
            refine am_hm (F := (fX4 true true true)) (m := (m0.1, m0.2.1, m0.2.2.1, m0.2.2.2.1, (mu_set (fun _ _ => 0) 0 (upd (fun _ => 0) 12 30)), m0.2.2.2.2.2)) rfl (fun m5 em5 => ?_)
            have hw := hw m5 em5
            refine am_aload_n dX4_save_36 rfl ?_
            refine am_aload_n dX4_save_37 rfl ?_
            refine am_getf dX4_save_38 fl_X4_12 rfl rfl ?_
            refine am_partU [26, 27, 28, 29, 30, 31, 1, 2, 3, 4, 5, 6] fam_X3Y dX4_save_41 q_X4_save_142 rfl (sX3_copyFrom hw) rfl rfl rfl rfl rfl rfl rfl rfl rfl (fun k6 hw => ?_)
            refine am_hm (F := (fX4 true true true)) (m := (m5.1, (mu_sub k6 10), m5.2.2.1, m5.2.2.2.1, k6, m5.2.2.2.2.2)) (pt_26_1_X3Y _ _ _ _) (fun m7 em7 => ?_)
            have hw := hw m7 em7
            refine am_aload_n dX4_save_44 rfl ?_
            refine am_getf dX4_save_45 fl_X4_12 rfl rfl ?_
            refine am_getf dX4_save_48 fl_X4_42 rfl rfl ?_
            exact am_ireturn dX4_save_51 rfl ⟨_, _, _, _, _, rfl, rfl, hw⟩
      · have hw := hw.1 rfl
        refine am_aaload (o := (some 26)) dX4_save_15 rfl vi_0 rfl ?_
        refine am_astore_n' (ls' := [some (.ref 0), some (.int (0 : Int32)), some (.ref 26)]) dX4_save_16 rfl rfl rfl ?_
        refine am_aload_n dX4_save_17 rfl ?_
        refine am_ifnonnull 36 dX4_save_18 (by decide) ?_
        refine am_aload_n dX4_save_36 rfl ?_
        refine am_aload_n dX4_save_37 rfl ?_
        refine am_getf dX4_save_38 fl_X4_12 rfl rfl ?_
        refine am_partU [26, 27, 28, 29, 30, 31, 1, 2, 3, 4, 5, 6] fam_X3Y dX4_save_41 q_X4_save_142 rfl (sX3_copyFrom hw) rfl rfl rfl rfl rfl rfl rfl rfl rfl (fun k3 hw => ?_)
        refine am_hm (F := (fX4 hp true s1)) (m := (m0.1, (mu_sub k3 10), m0.2.2.1, m0.2.2.2.1, k3, m0.2.2.2.2.2)) (pt_26_1_X3Y _ _ _ _) (fun m4 em4 => ?_)
        have hw := hw m4 em4
        refine am_aload_n dX4_save_44 rfl ?_
        refine am_getf dX4_save_45 fl_X4_12 rfl rfl ?_
        refine am_getf dX4_save_48 fl_X4_42 rfl rfl ?_
        exact am_ireturn dX4_save_51 rfl ⟨_, _, _, _, _, rfl, rfl, hw⟩
    · subst e9; have hw := hw.2.2 rfl
      cases s1
      · have hw := hw.2 rfl
        refine am_aaload (o := none) dX4_save_15 rfl vi_1 rfl ?_
        refine am_astore_nN' (ls' := [some (.ref 0), some (.int (1 : Int32)), some .null]) dX4_save_16 rfl rfl rfl ?_
        refine am_aload_nN dX4_save_17 rfl ?_
        refine am_ifnonnullN dX4_save_18 ?_
        cases hp
        · have hw := hw.2 rfl
          cases s0
          · have hw := hw.2 rfl
            refine am_new (q := 32) (fs := [.null, .null, .null, .null, .null, .int 0, .int 0, .int 0]) dX4_save_21 cl_X3 wd_73 wd_74 wd_56 (fun j hj => by rcases (show j = 0 ∨ j = 1 ∨ j = 2 ∨ j = 3 ∨ j = 4 ∨ j = 5 ∨ j = 6 ∨ j = 7 by omega) with rfl | rfl | rfl | rfl | rfl | rfl | rfl | rfl <;> rfl) (fun _ => rfl) rfl rfl rfl rfl ⟨Nat.le_of_ble_eq_true rfl, Nat.le_of_ble_eq_true rfl⟩ ?_
            refine am_dup dX4_save_24 rfl ?_
            refine am_callI (is := [32, 33, 34, 35, 36, 37]) dX4_save_25 q_X4_save_11.1 rfl rfl q_X4_save_11.2.1 q_X4_save_11.2.2 sX3_init rfl rfl rfl (Nat.le_of_ble_eq_true rfl) rfl rfl (Nat.le_of_ble_eq_true rfl) (Nat.le_of_ble_eq_true rfl) rfl ⟨Nat.le_of_ble_eq_true rfl, Nat.le_of_ble_eq_true rfl⟩ (zN_ok fam_X3 rfl) ?_
            rintro v h1 ⟨rfl, rfl⟩ -
            refine am_hp (h2 := List.set (fX4 false false true (m0.1, m0.2.1, m0.2.2.1, m0.2.2.2.1, m0.2.2.2.2.1, (mu_set (fun _ _ => 0) 0 (upd (fun _ => 0) 12 30)))) 7 (some (.inr (.inl [none, none])))) (mk_32 _ _ _ _ _) ?_
            refine am_astore_n' (ls' := [some (.ref 0), some (.int (1 : Int32)), some (.ref 32)]) dX4_save_28 rfl rfl rfl ?_
            refine am_aload_n dX4_save_29 rfl ?_
            refine am_getf dX4_save_30 fl_X4_16 rfl rfl ?_
            refine am_iload_n dX4_save_33 rfl ?_
            refine am_aload_n dX4_save_34 rfl ?_
            refine am_aastore dX4_save_35 rfl rfl vi_1 ?_
            refine am_hm (F := (fX4 false false true)) (m := (m0.1, m0.2.1, m0.2.2.1, m0.2.2.2.1, m0.2.2.2.2.1, (mu_set (fun _ _ => 0) 0 (upd (fun _ => 0) 12 30)))) rfl (fun m28 em28 => ?_)
            have hw := hw m28 em28
            refine am_aload_n dX4_save_36 rfl ?_
            refine am_aload_n dX4_save_37 rfl ?_
            refine am_getf dX4_save_38 fl_X4_12 rfl rfl ?_
            refine am_partU [32, 33, 34, 35, 36, 37, 1, 2, 3, 4, 5, 6] fam_X3Y dX4_save_41 q_X4_save_142 rfl (sX3_copyFrom hw) rfl rfl rfl rfl rfl rfl rfl rfl rfl (fun k29 hw => ?_)
            refine am_hm (F := (fX4 false false true)) (m := (m28.1, (mu_sub k29 10), m28.2.2.1, m28.2.2.2.1, m28.2.2.2.2.1, k29)) (pt_32_1_X3Y _ _ _ _) (fun m30 em30 => ?_)
            have hw := hw m30 em30
            refine am_aload_n dX4_save_44 rfl ?_
            refine am_getf dX4_save_45 fl_X4_12 rfl rfl ?_
            refine am_getf dX4_save_48 fl_X4_42 rfl rfl ?_
            exact am_ireturn dX4_save_51 rfl ⟨_, _, _, _, _, rfl, rfl, hw⟩
          · have hw := hw.1 rfl
            refine am_new (q := 32) (fs := [.null, .null, .null, .null, .null, .int 0, .int 0, .int 0]) dX4_save_21 cl_X3 wd_73 wd_74 wd_56 (fun j hj => by rcases (show j = 0 ∨ j = 1 ∨ j = 2 ∨ j = 3 ∨ j = 4 ∨ j = 5 ∨ j = 6 ∨ j = 7 by omega) with rfl | rfl | rfl | rfl | rfl | rfl | rfl | rfl <;> rfl) (fun _ => rfl) rfl rfl rfl rfl ⟨Nat.le_of_ble_eq_true rfl, Nat.le_of_ble_eq_true rfl⟩ ?_
            refine am_dup dX4_save_24 rfl ?_
            refine am_callI (is := [32, 33, 34, 35, 36, 37]) dX4_save_25 q_X4_save_11.1 rfl rfl q_X4_save_11.2.1 q_X4_save_11.2.2 sX3_init rfl rfl rfl (Nat.le_of_ble_eq_true rfl) rfl rfl (Nat.le_of_ble_eq_true rfl) (Nat.le_of_ble_eq_true rfl) rfl ⟨Nat.le_of_ble_eq_true rfl, Nat.le_of_ble_eq_true rfl⟩ (zN_ok fam_X3 rfl) ?_
            rintro v h1 ⟨rfl, rfl⟩ -
            refine am_hp (h2 := List.set (fX4 false true true (m0.1, m0.2.1, m0.2.2.1, m0.2.2.2.1, m0.2.2.2.2.1, (mu_set (fun _ _ => 0) 0 (upd (fun _ => 0) 12 30)))) 7 (some (.inr (.inl [(some 26), none])))) (mk_32 _ _ _ _ _) ?_
            refine am_astore_n' (ls' := [some (.ref 0), some (.int (1 : Int32)), some (.ref 32)]) dX4_save_28 rfl rfl rfl ?_
            refine am_aload_n dX4_save_29 rfl ?_
            refine am_getf dX4_save_30 fl_X4_16 rfl rfl ?_
            refine am_iload_n dX4_save_33 rfl ?_
            refine am_aload_n dX4_save_34 rfl ?_
            refine am_aastore dX4_save_35 rfl rfl vi_1 ?_
            refine am_hm (F := (fX4 false true true)) (m := (m0.1, m0.2.1, m0.2.2.1, m0.2.2.2.1, m0.2.2.2.2.1, (mu_set (fun _ _ => 0) 0 (upd (fun _ => 0) 12 30)))) rfl (fun m25 em25 => ?_)
            have hw := hw m25 em25
            refine am_aload_n dX4_save_36 rfl ?_
            refine am_aload_n dX4_save_37 rfl ?_
            refine am_getf dX4_save_38 fl_X4_12 rfl rfl ?_
            refine am_partU [32, 33, 34, 35, 36, 37, 1, 2, 3, 4, 5, 6] fam_X3Y dX4_save_41 q_X4_save_142 rfl (sX3_copyFrom hw) rfl rfl rfl rfl rfl rfl rfl rfl rfl (fun k26 hw => ?_)
            refine am_hm (F := (fX4 false true true)) (m := (m25.1, (mu_sub k26 10), m25.2.2.1, m25.2.2.2.1, m25.2.2.2.2.1, k26)) (pt_32_1_X3Y _ _ _ _) (fun m27 em27 => ?_)
            have hw := hw m27 em27
            refine am_aload_n dX4_save_44 rfl ?_
            refine am_getf dX4_save_45 fl_X4_12 rfl rfl ?_
            refine am_getf dX4_save_48 fl_X4_42 rfl rfl ?_
            exact am_ireturn dX4_save_51 rfl ⟨_, _, _, _, _, rfl, rfl, hw⟩
        · have hw := hw.1 rfl
          cases s0
          · have hw := hw.2 rfl
            refine am_new (q := 32) (fs := [.null, .null, .null, .null, .null, .int 0, .int 0, .int 0]) dX4_save_21 cl_X3 wd_73 wd_74 wd_56 (fun j hj => by rcases (show j = 0 ∨ j = 1 ∨ j = 2 ∨ j = 3 ∨ j = 4 ∨ j = 5 ∨ j = 6 ∨ j = 7 by omega) with rfl | rfl | rfl | rfl | rfl | rfl | rfl | rfl <;> rfl) (fun _ => rfl) rfl rfl rfl rfl ⟨Nat.le_of_ble_eq_true rfl, Nat.le_of_ble_eq_true rfl⟩ ?_
            refine am_dup dX4_save_24 rfl ?_
            refine am_callI (is := [32, 33, 34, 35, 36, 37]) dX4_save_25 q_X4_save_11.1 rfl rfl q_X4_save_11.2.1 q_X4_save_11.2.2 sX3_init rfl rfl rfl (Nat.le_of_ble_eq_true rfl) rfl rfl (Nat.le_of_ble_eq_true rfl) (Nat.le_of_ble_eq_true rfl) rfl ⟨Nat.le_of_ble_eq_true rfl, Nat.le_of_ble_eq_true rfl⟩ (zN_ok fam_X3 rfl) ?_
            rintro v h1 ⟨rfl, rfl⟩ -
            refine am_hp (h2 := List.set (fX4 true false true (m0.1, m0.2.1, m0.2.2.1, m0.2.2.2.1, m0.2.2.2.2.1, (mu_set (fun _ _ => 0) 0 (upd (fun _ => 0) 12 30)))) 7 (some (.inr (.inl [none, none])))) (mk_32 _ _ _ _ _) ?_
            refine am_astore_n' (ls' := [some (.ref 0), some (.int (1 : Int32)), some (.ref 32)]) dX4_save_28 rfl rfl rfl ?_
            refine am_aload_n dX4_save_29 rfl ?_
            refine am_getf dX4_save_30 fl_X4_16 rfl rfl ?_
            refine am_iload_n dX4_save_33 rfl ?_
            refine am_aload_n dX4_save_34 rfl ?_
            refine am_aastore dX4_save_35 rfl rfl vi_1 ?_
            refine am_hm (F := (fX4 true false true)) (m := (m0.1, m0.2.1, m0.2.2.1, m0.2.2.2.1, m0.2.2.2.2.1, (mu_set (fun _ _ => 0) 0 (upd (fun _ => 0) 12 30)))) rfl (fun m22 em22 => ?_)
            have hw := hw m22 em22
            refine am_aload_n dX4_save_36 rfl ?_
            refine am_aload_n dX4_save_37 rfl ?_
            refine am_getf dX4_save_38 fl_X4_12 rfl rfl ?_
            refine am_partU [32, 33, 34, 35, 36, 37, 1, 2, 3, 4, 5, 6] fam_X3Y dX4_save_41 q_X4_save_142 rfl (sX3_copyFrom hw) rfl rfl rfl rfl rfl rfl rfl rfl rfl (fun k23 hw => ?_)
            refine am_hm (F := (fX4 true false true)) (m := (m22.1, (mu_sub k23 10), m22.2.2.1, m22.2.2.2.1, m22.2.2.2.2.1, k23)) (pt_32_1_X3Y _ _ _ _) (fun m24 em24 => ?_)
            have hw := hw m24 em24
            refine am_aload_n dX4_save_44 rfl ?_
            refine am_getf dX4_save_45 fl_X4_12 rfl rfl ?_
            refine am_getf dX4_save_48 fl_X4_42 rfl rfl ?_
            exact am_ireturn dX4_save_51 rfl ⟨_, _, _, _, _, rfl, rfl, hw⟩
          · have hw := hw.1 rfl
            refine am_new (q := 32) (fs := [.null, .null, .null, .null, .null, .int 0, .int 0, .int 0]) dX4_save_21 cl_X3 wd_73 wd_74 wd_56 (fun j hj => by rcases (show j = 0 ∨ j = 1 ∨ j = 2 ∨ j = 3 ∨ j = 4 ∨ j = 5 ∨ j = 6 ∨ j = 7 by omega) with rfl | rfl | rfl | rfl | rfl | rfl | rfl | rfl <;> rfl) (fun _ => rfl) rfl rfl rfl rfl ⟨Nat.le_of_ble_eq_true rfl, Nat.le_of_ble_eq_true rfl⟩ ?_
            refine am_dup dX4_save_24 rfl ?_
            refine am_callI (is := [32, 33, 34, 35, 36, 37]) dX4_save_25 q_X4_save_11.1 rfl rfl q_X4_save_11.2.1 q_X4_save_11.2.2 sX3_init rfl rfl rfl (Nat.le_of_ble_eq_true rfl) rfl rfl (Nat.le_of_ble_eq_true rfl) (Nat.le_of_ble_eq_true rfl) rfl ⟨Nat.le_of_ble_eq_true rfl, Nat.le_of_ble_eq_true rfl⟩ (zN_ok fam_X3 rfl) ?_
            rintro v h1 ⟨rfl, rfl⟩ -
            refine am_hp (h2 := List.set (fX4 true true true (m0.1, m0.2.1, m0.2.2.1, m0.2.2.2.1, m0.2.2.2.2.1, (mu_set (fun _ _ => 0) 0 (upd (fun _ => 0) 12 30)))) 7 (some (.inr (.inl [(some 26), none])))) (mk_32 _ _ _ _ _) ?_
            refine am_astore_n' (ls' := [some (.ref 0), some (.int (1 : Int32)), some (.ref 32)]) dX4_save_28 rfl rfl rfl ?_
            refine am_aload_n dX4_save_29 rfl ?_
            refine am_getf dX4_save_30 fl_X4_16 rfl rfl ?_
            refine am_iload_n dX4_save_33 rfl ?_
            refine am_aload_n dX4_save_34 rfl ?_
            refine am_aastore dX4_save_35 rfl rfl vi_1 ?_
            refine am_hm (F := (fX4 true true true)) (m := (m0.1, m0.2.1, m0.2.2.1, m0.2.2.2.1, m0.2.2.2.2.1, (mu_set (fun _ _ => 0) 0 (upd (fun _ => 0) 12 30)))) rfl (fun m19 em19 => ?_)
            have hw := hw m19 em19
            refine am_aload_n dX4_save_36 rfl ?_
            refine am_aload_n dX4_save_37 rfl ?_
            refine am_getf dX4_save_38 fl_X4_12 rfl rfl ?_
            refine am_partU [32, 33, 34, 35, 36, 37, 1, 2, 3, 4, 5, 6] fam_X3Y dX4_save_41 q_X4_save_142 rfl (sX3_copyFrom hw) rfl rfl rfl rfl rfl rfl rfl rfl rfl (fun k20 hw => ?_)
            refine am_hm (F := (fX4 true true true)) (m := (m19.1, (mu_sub k20 10), m19.2.2.1, m19.2.2.2.1, m19.2.2.2.2.1, k20)) (pt_32_1_X3Y _ _ _ _) (fun m21 em21 => ?_)
            have hw := hw m21 em21
            refine am_aload_n dX4_save_44 rfl ?_
            refine am_getf dX4_save_45 fl_X4_12 rfl rfl ?_
            refine am_getf dX4_save_48 fl_X4_42 rfl rfl ?_
            exact am_ireturn dX4_save_51 rfl ⟨_, _, _, _, _, rfl, rfl, hw⟩
      · have hw := hw.1 rfl
        refine am_aaload (o := (some 32)) dX4_save_15 rfl vi_1 rfl ?_
        refine am_astore_n' (ls' := [some (.ref 0), some (.int (1 : Int32)), some (.ref 32)]) dX4_save_16 rfl rfl rfl ?_
        refine am_aload_n dX4_save_17 rfl ?_
        refine am_ifnonnull 36 dX4_save_18 (by decide) ?_
        refine am_aload_n dX4_save_36 rfl ?_
        refine am_aload_n dX4_save_37 rfl ?_
        refine am_getf dX4_save_38 fl_X4_12 rfl rfl ?_
        refine am_partU [32, 33, 34, 35, 36, 37, 1, 2, 3, 4, 5, 6] fam_X3Y dX4_save_41 q_X4_save_142 rfl (sX3_copyFrom hw) rfl rfl rfl rfl rfl rfl rfl rfl rfl (fun k17 hw => ?_)
        refine am_hm (F := (fX4 hp s0 true)) (m := (m0.1, (mu_sub k17 10), m0.2.2.1, m0.2.2.2.1, m0.2.2.2.2.1, k17)) (pt_32_1_X3Y _ _ _ _) (fun m18 em18 => ?_)
        have hw := hw m18 em18
        refine am_aload_n dX4_save_44 rfl ?_
        refine am_getf dX4_save_45 fl_X4_12 rfl rfl ?_
        refine am_getf dX4_save_48 fl_X4_42 rfl rfl ?_
        exact am_ireturn dX4_save_51 rfl ⟨_, _, _, _, _, rfl, rfl, hw⟩

def wX4_restore (a1 : Int32) (hp s0 s1 : Bool) (m0 : HM) (K : Int32 → HM → Prop) : Prop := wX4_isSlot a1 (fun r1 : Int32 => ((r1 = 0 → K (-4 : Int32) m0) ∧ (¬ r1 = 0 → ((a1 = 0 ∨ a1 = 1) ∧ (a1 = 0 → ((s0 = true → wX4_houseChanges hp true s1 m0 (fun m3 : HM => wX3_copyFrom (mu_cat m3.2.1 10 m3.2.2.2.2.1) (fun k4 : Mu => ∀ m5 : HM, m5 = (m3.1, k4, m3.2.2.1, m3.2.2.2.1, (mu_sub k4 10), m3.2.2.2.2.2) → K (m5.2.1 8 5) m5))) ∧ (s0 = false → K (-10 : Int32) m0))) ∧ (a1 = 1 → ((s1 = true → wX4_houseChanges hp s0 true m0 (fun m6 : HM => wX3_copyFrom (mu_cat m6.2.1 10 m6.2.2.2.2.2) (fun k7 : Mu => ∀ m8 : HM, m8 = (m6.1, k7, m6.2.2.1, m6.2.2.2.1, m6.2.2.2.2.1, (mu_sub k7 10)) → K (m8.2.1 8 5) m8))) ∧ (s1 = false → K (-10 : Int32) m0)))))))
set_option maxRecDepth 20000 in
theorem sX4_restore {hp s0 s1 : Bool} {a1 : Int32} {m0 : HM} {K : Int32 → HM → Prop} (hw : wX4_restore a1 hp s0 s1 m0 K) : am_Met mX4_restore [.ref 0, .int a1] ((fX4 hp s0 s1) m0) 0 0 (zI (fX4 hp s0 s1) K) := by
  unfold wX4_restore at hw
  refine am_Met.of2 (ls := [some (.ref 0), some (.int a1), none]) pf_X4_restore rfl rfl rfl rfl ?_
  refine am_iload_n dX4_restore_0 rfl ?_
  refine am_stS dX4_restore_1 q_X4_restore_139 (sX4_isSlot hw) rfl rfl rfl rfl (fun r1 hw => ?_)
  refine am_if_ne 10 dX4_restore_4 (by decide) (fun c2 => ?_) (fun c2 => ?_)
  · have hw := hw.1 c2
    refine am_bipush dX4_restore_7 bc_m4 ?_
    exact am_ireturn dX4_restore_9 rfl ⟨_, _, rfl, rfl, hw⟩
  · have hw := hw.2 c2
    refine am_aload_n dX4_restore_10 rfl ?_
    refine am_getf dX4_restore_11 fl_X4_16 rfl rfl ?_
    refine am_iload_n dX4_restore_14 rfl ?_
    rcases hw.1 with e9 | e9
    · subst e9; have hw := hw.2.1 rfl
      cases s0
      · have hw := hw.2 rfl
        refine am_aaload (o := none) dX4_restore_15 rfl vi_0 rfl ?_
        refine am_astore_nN' (ls' := [some (.ref 0), some (.int (0 : Int32)), some .null]) dX4_restore_16 rfl rfl rfl ?_
        refine am_aload_nN dX4_restore_17 rfl ?_
        refine am_ifnonnullN dX4_restore_18 ?_
        refine am_bipush dX4_restore_21 bc_m10 ?_
        exact am_ireturn dX4_restore_23 rfl ⟨_, _, rfl, rfl, hw⟩
      · have hw := hw.1 rfl
        refine am_aaload (o := (some 26)) dX4_restore_15 rfl vi_0 rfl ?_
        refine am_astore_n' (ls' := [some (.ref 0), some (.int (0 : Int32)), some (.ref 26)]) dX4_restore_16 rfl rfl rfl ?_
        refine am_aload_n dX4_restore_17 rfl ?_
        refine am_ifnonnull 24 dX4_restore_18 (by decide) ?_
        refine am_aload_n dX4_restore_24 rfl ?_
        refine am_selfU4  dX4_restore_25 q_X4_restore_46 rfl (sX4_houseChanges hw) rfl rfl rfl rfl rfl rfl (fun m3 hw => ?_)
        refine am_aload_n dX4_restore_28 rfl ?_
        refine am_getf dX4_restore_29 fl_X4_12 rfl rfl ?_
        refine am_aload_n dX4_restore_32 rfl ?_
        refine am_partU [1, 2, 3, 4, 5, 6, 26, 27, 28, 29, 30, 31] fam_X3Y dX4_restore_33 q_X4_restore_142 rfl (sX3_copyFrom hw) rfl rfl rfl rfl rfl rfl rfl rfl rfl (fun k4 hw => ?_)
        refine am_hm (F := (fX4 hp true s1)) (m := (m3.1, k4, m3.2.2.1, m3.2.2.2.1, (mu_sub k4 10), m3.2.2.2.2.2)) (pt_1_26_X3Y _ _ _ _) (fun m5 em5 => ?_)
        have hw := hw m5 em5
        refine am_aload_n dX4_restore_36 rfl ?_
        refine am_getf dX4_restore_37 fl_X4_12 rfl rfl ?_
        refine am_getf dX4_restore_40 fl_X4_42 rfl rfl ?_
        exact am_ireturn dX4_restore_43 rfl ⟨_, _, rfl, rfl, hw⟩
    · subst e9; have hw := hw.2.2 rfl
      cases s1
      · have hw := hw.2 rfl
        refine am_aaload (o := none) dX4_restore_15 rfl vi_1 rfl ?_
        refine am_astore_nN' (ls' := [some (.ref 0), some (.int (1 : Int32)), some .null]) dX4_restore_16 rfl rfl rfl ?_
        refine am_aload_nN dX4_restore_17 rfl ?_
        refine am_ifnonnullN dX4_restore_18 ?_
        refine am_bipush dX4_restore_21 bc_m10 ?_
        exact am_ireturn dX4_restore_23 rfl ⟨_, _, rfl, rfl, hw⟩
      · have hw := hw.1 rfl
        refine am_aaload (o := (some 32)) dX4_restore_15 rfl vi_1 rfl ?_
        refine am_astore_n' (ls' := [some (.ref 0), some (.int (1 : Int32)), some (.ref 32)]) dX4_restore_16 rfl rfl rfl ?_
        refine am_aload_n dX4_restore_17 rfl ?_
        refine am_ifnonnull 24 dX4_restore_18 (by decide) ?_
        refine am_aload_n dX4_restore_24 rfl ?_
        refine am_selfU4  dX4_restore_25 q_X4_restore_46 rfl (sX4_houseChanges hw) rfl rfl rfl rfl rfl rfl (fun m6 hw => ?_)
        refine am_aload_n dX4_restore_28 rfl ?_
        refine am_getf dX4_restore_29 fl_X4_12 rfl rfl ?_
        refine am_aload_n dX4_restore_32 rfl ?_
        refine am_partU [1, 2, 3, 4, 5, 6, 32, 33, 34, 35, 36, 37] fam_X3Y dX4_restore_33 q_X4_restore_142 rfl (sX3_copyFrom hw) rfl rfl rfl rfl rfl rfl rfl rfl rfl (fun k7 hw => ?_)
        refine am_hm (F := (fX4 hp s0 true)) (m := (m6.1, k7, m6.2.2.1, m6.2.2.2.1, m6.2.2.2.2.1, (mu_sub k7 10))) (pt_1_32_X3Y _ _ _ _) (fun m8 em8 => ?_)
        have hw := hw m8 em8
        refine am_aload_n dX4_restore_36 rfl ?_
        refine am_getf dX4_restore_37 fl_X4_12 rfl rfl ?_
        refine am_getf dX4_restore_40 fl_X4_42 rfl rfl ?_
        exact am_ireturn dX4_restore_43 rfl ⟨_, _, rfl, rfl, hw⟩
