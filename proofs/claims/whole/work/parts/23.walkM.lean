def wX5_in (a1 a2 a3 : Int32) (K : Int32 → Prop) : Prop := ((a1 < a2 → K (0 : Int32)) ∧ (¬ a1 < a2 → ((a3 < a1 → K (0 : Int32)) ∧ (¬ a3 < a1 → K (1 : Int32)))))
set_option maxRecDepth 20000 in
theorem sX5_in {a1 a2 a3 : Int32} {K : Int32 → Prop} (hw : wX5_in a1 a2 a3 K) : am_Met mX5_in [.int a1, .int a2, .int a3] [] 0 0 (zP [] K) := by
  unfold wX5_in at hw
  refine am_Met.of2 (ls := [some (.int a1), some (.int a2), some (.int a3)]) pf_X5_in rfl rfl rfl rfl ?_
  refine am_iload_n dX5_in_0 rfl ?_
  refine am_iload_n dX5_in_1 rfl ?_
  refine am_icmp_lt 14 dX5_in_2 (by decide) (fun c1 => ?_) (fun c1 => ?_)
  · have hw := hw.1 c1
    refine am_iconst dX5_in_14 ic_0 ?_
    exact am_zreturn dX5_in_15 rfl rfl ⟨_, rfl, rfl, hw⟩
  · have hw := hw.2 c1
    refine am_iload_n dX5_in_5 rfl ?_
    refine am_iload_n dX5_in_6 rfl ?_
    refine am_icmp_gt 14 dX5_in_7 (by decide) (fun c2 => ?_) (fun c2 => ?_)
    · have hw := hw.1 c2
      refine am_iconst dX5_in_14 ic_0 ?_
      exact am_zreturn dX5_in_15 rfl rfl ⟨_, rfl, rfl, hw⟩
    · have hw := hw.2 c2
      refine am_iconst dX5_in_10 ic_1 ?_
      refine am_goto 15 dX5_in_11 (by decide) ?_
      exact am_zreturn dX5_in_15 rfl rfl ⟨_, rfl, rfl, hw⟩

def wX5_change (m0 : Mu) (K : Mu → Prop) : Prop := ∀ m1 : Mu, m1 = mu_up m0 32 4 (0 : Int32) → ∀ m2 : Mu, m2 = mu_up m1 32 6 (-11 : Int32) → K m2
set_option maxRecDepth 20000 in
theorem sX5_change {m0 : Mu} {K : Mu → Prop} (hw : wX5_change m0 K) : am_Met mX5_change [.ref 0] (fX5 m0) 0 0 (zV fX5 K) := by
  unfold wX5_change at hw
  refine am_Met.of2 (ls := [some (.ref 0)]) pf_X5_change rfl rfl rfl rfl ?_
  refine am_aload_n dX5_change_0 rfl ?_
  refine am_iconst dX5_change_1 ic_0 ?_
  refine am_putf' (F := fX5) (m := mu_up m0 32 4 (0 : Int32)) dX5_change_2 fp_X5_81 rfl rfl rfl (fun m1 em1 => ?_)
  have hw := hw m1 em1
  refine am_aload_n dX5_change_5 rfl ?_
  refine am_bipush dX5_change_6 bc_m11 ?_
  refine am_putf' (F := fX5) (m := mu_up m1 32 6 (-11 : Int32)) dX5_change_8 fp_X5_23 rfl rfl rfl (fun m2 em2 => ?_)
  have hw := hw m2 em2
  exact am_vreturn dX5_change_11 rfl ⟨_, rfl, rfl, hw⟩

def wX5_isPosition (a1 : Int32) (K : Int32 → Prop) : Prop := wX5_in a1 (0 : Int32) (11 : Int32) (fun r1 : Int32 => (narrow .boolean (.int r1) = .int r1 ∧ K r1))
set_option maxRecDepth 20000 in
theorem sX5_isPosition {a1 : Int32} {K : Int32 → Prop} (hw : wX5_isPosition a1 K) : am_Met mX5_isPosition [.int a1] [] 0 0 (zP [] K) := by
  unfold wX5_isPosition at hw
  refine am_Met.of2 (ls := [some (.int a1)]) pf_X5_isPosition rfl rfl rfl rfl ?_
  refine am_iload_n dX5_isPosition_0 rfl ?_
  refine am_iconst dX5_isPosition_1 ic_0 ?_
  refine am_bipush dX5_isPosition_2 bc_11 ?_
  refine am_stS dX5_isPosition_4 q_X5_isPosition_84 (sX5_in hw) rfl rfl rfl rfl (fun r1 hw => ?_)
  exact am_zreturn dX5_isPosition_7 rfl hw.1 ⟨_, rfl, rfl, hw.2⟩

def wX5_isLocomotive (a1 : Int32) (m0 : Mu) (K : Int32 → Prop) : Prop := (vp_in (14 : Int32) 148 ∧ wX5_in a1 (0 : Int32) ((m0 0 ((14 : Int32)).toNatClampNeg) - (1 : Int32)) (fun r1 : Int32 => (narrow .boolean (.int r1) = .int r1 ∧ K r1)))
set_option maxRecDepth 20000 in
theorem sX5_isLocomotive {a1 : Int32} {m0 : Mu} {K : Int32 → Prop} (hw : wX5_isLocomotive a1 m0 K) : am_Met mX5_isLocomotive [.ref 0, .int a1] (fX5 m0) 0 0 (zP (fX5 m0) K) := by
  unfold wX5_isLocomotive at hw
  refine am_Met.of2 (ls := [some (.ref 0), some (.int a1)]) pf_X5_isLocomotive rfl rfl rfl rfl ?_
  refine am_iload_n dX5_isLocomotive_0 rfl ?_
  refine am_iconst dX5_isLocomotive_1 ic_0 ?_
  refine am_aload_n dX5_isLocomotive_2 rfl ?_
  refine am_getf dX5_isLocomotive_3 fl_X5_7 rfl rfl ?_
  refine am_bipush dX5_isLocomotive_6 bc_14 ?_
  refine am_iaload dX5_isLocomotive_8 rfl hw.1 ?_
  have hw := hw.2
  refine am_iconst dX5_isLocomotive_9 ic_1 ?_
  refine am_isub dX5_isLocomotive_10 ?_
  refine am_stS dX5_isLocomotive_11 q_X5_isLocomotive_84 (sX5_in hw) rfl rfl rfl rfl (fun r1 hw => ?_)
  exact am_zreturn dX5_isLocomotive_14 rfl hw.1 ⟨_, rfl, rfl, hw.2⟩

def wX5_isTrack (a1 : Int32) (m0 : Mu) (K : Int32 → Prop) : Prop := (vp_in ((0 : Int32) + a1) 148 ∧ (((m0 0 (((0 : Int32) + a1)).toNatClampNeg) ≤ 0 → K (0 : Int32)) ∧ (¬ (m0 0 (((0 : Int32) + a1)).toNatClampNeg) ≤ 0 → K (1 : Int32))))
set_option maxRecDepth 20000 in
theorem sX5_isTrack {a1 : Int32} {m0 : Mu} {K : Int32 → Prop} (hw : wX5_isTrack a1 m0 K) : am_Met mX5_isTrack [.ref 0, .int a1] (fX5 m0) 0 0 (zP (fX5 m0) K) := by
  unfold wX5_isTrack at hw
  refine am_Met.of2 (ls := [some (.ref 0), some (.int a1)]) pf_X5_isTrack rfl rfl rfl rfl ?_
  refine am_aload_n dX5_isTrack_0 rfl ?_
  refine am_getf dX5_isTrack_1 fl_X5_7 rfl rfl ?_
  refine am_iconst dX5_isTrack_4 ic_0 ?_
  refine am_iload_n dX5_isTrack_5 rfl ?_
  refine am_iadd dX5_isTrack_6 ?_
  refine am_iaload dX5_isTrack_7 rfl hw.1 ?_
  have hw := hw.2
  refine am_if_le 15 dX5_isTrack_8 (by decide) (fun c1 => ?_) (fun c1 => ?_)
  · have hw := hw.1 c1
    refine am_iconst dX5_isTrack_15 ic_0 ?_
    exact am_zreturn dX5_isTrack_16 rfl rfl ⟨_, rfl, rfl, hw⟩
  · have hw := hw.2 c1
    refine am_iconst dX5_isTrack_11 ic_1 ?_
    refine am_goto 16 dX5_isTrack_12 (by decide) ?_
    exact am_zreturn dX5_isTrack_16 rfl rfl ⟨_, rfl, rfl, hw⟩

def wX5_cell (a1 a2 : Int32) (m0 : Mu) (K : Int32 → Prop) : Prop := K (((44 : Int32) + ((8 : Int32) * a1)) + a2)
set_option maxRecDepth 20000 in
theorem sX5_cell {a1 a2 : Int32} {m0 : Mu} {K : Int32 → Prop} (hw : wX5_cell a1 a2 m0 K) : am_Met mX5_cell [.ref 0, .int a1, .int a2] (fX5 m0) 0 0 (zP (fX5 m0) K) := by
  unfold wX5_cell at hw
  refine am_Met.of2 (ls := [some (.ref 0), some (.int a1), some (.int a2)]) pf_X5_cell rfl rfl rfl rfl ?_
  refine am_bipush dX5_cell_0 bc_44 ?_
  refine am_bipush dX5_cell_2 bc_8 ?_
  refine am_iload_n dX5_cell_4 rfl ?_
  refine am_imul dX5_cell_5 ?_
  refine am_iadd dX5_cell_6 ?_
  refine am_iload_n dX5_cell_7 rfl ?_
  refine am_iadd dX5_cell_8 ?_
  exact am_ireturn dX5_cell_9 rfl ⟨_, rfl, rfl, hw⟩

def lpX5_used_4 (m0 : Mu) (K : Int32 → Prop)  : Nat → Int32 → Int32 → Int32 → Prop
  | 0, _, _, _ => False
  | n + 1, v1, v2, v3 => (vp_in ((31 : Int32) + v1) 148 ∧ (((m0 0 (((31 : Int32) + v1)).toNatClampNeg) ≤ v3 → K v2) ∧ (¬ (m0 0 (((31 : Int32) + v1)).toNatClampNeg) ≤ v3 → wX5_cell v1 v3 m0 (fun r2 : Int32 => (vp_in r2 148 ∧ (vp_in ((15 : Int32) + (m0 0 (r2).toNatClampNeg)) 148 ∧ ∀ x3 : Int32, x3 = (v2 + (m0 0 (((15 : Int32) + (m0 0 (r2).toNatClampNeg))).toNatClampNeg)) → ∀ x4 : Int32, x4 = v3 + (1 : Int32) → lpX5_used_4 m0 K n v1 x3 x4))))))
set_option maxRecDepth 20000 in
theorem slpX5_used_4 {m0 : Mu} {K : Int32 → Prop} : ∀ (n : Nat) (v1 v2 v3 : Int32), lpX5_used_4 m0 K n v1 v2 v3 → am_Ok mX5_used none (zP (fX5 m0) K) 0 0 4 [some (.ref 0), some (.int v1), some (.int v2), some (.int v3)] [] (fX5 m0) := by
  intro n
  induction n with
  | zero => intro v1 v2 v3 hw; exact False.elim hw
  | succ n ih =>
    intro v1 v2 v3 hw
    unfold lpX5_used_4 at hw
    refine am_iload_n dX5_used_4 rfl ?_
    refine am_aload_n dX5_used_5 rfl ?_
    refine am_getf dX5_used_6 fl_X5_7 rfl rfl ?_
    refine am_bipush dX5_used_9 bc_31 ?_
    refine am_iload_n dX5_used_11 rfl ?_
    refine am_iadd dX5_used_12 ?_
    refine am_iaload dX5_used_13 rfl hw.1 ?_
    have hw := hw.2
    refine am_icmp_ge 45 dX5_used_14 (by decide) (fun c1 => ?_) (fun c1 => ?_)
    · have hw := hw.1 c1
      refine am_iload_n dX5_used_45 rfl ?_
      exact am_ireturn dX5_used_46 rfl ⟨_, rfl, rfl, hw⟩
    · have hw := hw.2 c1
      refine am_iload_n dX5_used_17 rfl ?_
      refine am_aload_n dX5_used_18 rfl ?_
      refine am_getf dX5_used_19 fl_X5_7 rfl rfl ?_
      refine am_bipush dX5_used_22 bc_15 ?_
      refine am_aload_n dX5_used_24 rfl ?_
      refine am_getf dX5_used_25 fl_X5_7 rfl rfl ?_
      refine am_aload_n dX5_used_28 rfl ?_
      refine am_iload_n dX5_used_29 rfl ?_
      refine am_iload_n dX5_used_30 rfl ?_
      refine am_selfP fam_X5 rfl dX5_used_31 q_X5_used_88 rfl (sX5_cell hw) rfl rfl rfl rfl rfl (fun r2 hw => ?_)
      refine am_iaload dX5_used_34 rfl hw.1 ?_
      have hw := hw.2
      refine am_iadd dX5_used_35 ?_
      refine am_iaload dX5_used_36 rfl hw.1 ?_
      have hw := hw.2
      refine am_iadd dX5_used_37 ?_
      refine am_top (fun x3 ex3 => ?_)
      have hw := hw x3 ex3
      refine am_istore_n' (ls' := [some (.ref 0), some (.int v1), some (.int x3), some (.int v3)]) dX5_used_38 rfl rfl rfl ?_
      refine am_iinc' (lf := fun y9 => [some (.ref 0), some (.int v1), some (.int x3), some (.int y9)]) dX5_used_39 rfl rfl rfl ic_1 (fun _ => rfl) (fun x4 ex4 => ?_)
      have hw := hw x4 ex4
      refine am_goto 4 dX5_used_42 (by decide) ?_
      refine am_forget (ls' := [some (.ref 0), some (.int v1), some (.int x3), some (.int x4)]) [true, true, true, true] rfl ?_
      exact ih _ _ _ hw
def wX5_used (a1 : Int32) (m0 : Mu) (K : Int32 → Prop) : Prop := (∃ n5 : Nat, lpX5_used_4 m0 K n5 a1 (0 : Int32) (0 : Int32))
set_option maxRecDepth 20000 in
theorem sX5_used {a1 : Int32} {m0 : Mu} {K : Int32 → Prop} (hw : wX5_used a1 m0 K) : am_Met mX5_used [.ref 0, .int a1] (fX5 m0) 0 0 (zP (fX5 m0) K) := by
  unfold wX5_used at hw
  refine am_Met.of2 (ls := [some (.ref 0), some (.int a1), none, none]) pf_X5_used rfl rfl rfl rfl ?_
  refine am_iconst dX5_used_0 ic_0 ?_
  refine am_istore_n' (ls' := [some (.ref 0), some (.int a1), some (.int (0 : Int32)), none]) dX5_used_1 rfl rfl rfl ?_
  refine am_iconst dX5_used_2 ic_0 ?_
  refine am_istore_n' (ls' := [some (.ref 0), some (.int a1), some (.int (0 : Int32)), some (.int (0 : Int32))]) dX5_used_3 rfl rfl rfl ?_
  obtain ⟨n5, hw⟩ := hw
  refine am_forget (ls' := [some (.ref 0), some (.int a1), some (.int (0 : Int32)), some (.int (0 : Int32))]) [true, true, true, true] rfl ?_
  exact slpX5_used_4  n5 _ _ _ hw

def wX5_setTrack (a1 a2 : Int32) (m0 : Mu) (K : Int32 → Mu → Prop) : Prop := wX5_isPosition a1 (fun r1 : Int32 => ((r1 = 0 → K (-1 : Int32) m0) ∧ (¬ r1 = 0 → wX5_in a2 (0 : Int32) (60 : Int32) (fun r3 : Int32 => ((r3 = 0 → K (-4 : Int32) m0) ∧ (¬ r3 = 0 → wX5_used a1 m0 (fun r5 : Int32 => ((r5 ≤ a2 → (vp_in ((0 : Int32) + a1) 148 ∧ ∀ x7 : Int32, x7 = (m0 0 (((0 : Int32) + a1)).toNatClampNeg) → (vp_in ((0 : Int32) + a1) 148 ∧ ∀ m8 : Mu, m8 = mu_up m0 0 (((0 : Int32) + a1)).toNatClampNeg a2 → wX5_change m8 (fun m9 : Mu => K x7 m9)))) ∧ (¬ r5 ≤ a2 → K (-5 : Int32) m0)))))))))
set_option maxRecDepth 20000 in
theorem sX5_setTrack {a1 a2 : Int32} {m0 : Mu} {K : Int32 → Mu → Prop} (hw : wX5_setTrack a1 a2 m0 K) : am_Met mX5_setTrack [.ref 0, .int a1, .int a2] (fX5 m0) 0 0 (zI fX5 K) := by
  unfold wX5_setTrack at hw
  refine am_Met.of2 (ls := [some (.ref 0), some (.int a1), some (.int a2), none]) pf_X5_setTrack rfl rfl rfl rfl ?_
  refine am_iload_n dX5_setTrack_0 rfl ?_
  refine am_stS dX5_setTrack_1 q_X5_setTrack_92 (sX5_isPosition hw) rfl rfl rfl rfl (fun r1 hw => ?_)
  refine am_if_ne 9 dX5_setTrack_4 (by decide) (fun c2 => ?_) (fun c2 => ?_)
  · have hw := hw.1 c2
    refine am_iconst dX5_setTrack_7 ic_m1 ?_
    exact am_ireturn dX5_setTrack_8 rfl ⟨_, _, rfl, rfl, hw⟩
  · have hw := hw.2 c2
    refine am_iload_n dX5_setTrack_9 rfl ?_
    refine am_iconst dX5_setTrack_10 ic_0 ?_
    refine am_bipush dX5_setTrack_11 bc_60 ?_
    refine am_stS dX5_setTrack_13 q_X5_setTrack_84 (sX5_in hw) rfl rfl rfl rfl (fun r3 hw => ?_)
    refine am_if_ne 22 dX5_setTrack_16 (by decide) (fun c4 => ?_) (fun c4 => ?_)
    · have hw := hw.1 c4
      refine am_bipush dX5_setTrack_19 bc_m4 ?_
      exact am_ireturn dX5_setTrack_21 rfl ⟨_, _, rfl, rfl, hw⟩
    · have hw := hw.2 c4
      refine am_aload_n dX5_setTrack_22 rfl ?_
      refine am_iload_n dX5_setTrack_23 rfl ?_
      refine am_selfP fam_X5 rfl dX5_setTrack_24 q_X5_setTrack_96 rfl (sX5_used hw) rfl rfl rfl rfl rfl (fun r5 hw => ?_)
      refine am_iload_n dX5_setTrack_27 rfl ?_
      refine am_icmp_le 34 dX5_setTrack_28 (by decide) (fun c6 => ?_) (fun c6 => ?_)
      · have hw := hw.1 c6
        refine am_aload_n dX5_setTrack_34 rfl ?_
        refine am_getf dX5_setTrack_35 fl_X5_7 rfl rfl ?_
        refine am_iconst dX5_setTrack_38 ic_0 ?_
        refine am_iload_n dX5_setTrack_39 rfl ?_
        refine am_iadd dX5_setTrack_40 ?_
        refine am_iaload dX5_setTrack_41 rfl hw.1 ?_
        have hw := hw.2
        refine am_top (fun x7 ex7 => ?_)
        have hw := hw x7 ex7
        refine am_istore_n' (ls' := [some (.ref 0), some (.int a1), some (.int a2), some (.int x7)]) dX5_setTrack_42 rfl rfl rfl ?_
        refine am_aload_n dX5_setTrack_43 rfl ?_
        refine am_getf dX5_setTrack_44 fl_X5_7 rfl rfl ?_
        refine am_iconst dX5_setTrack_47 ic_0 ?_
        refine am_iload_n dX5_setTrack_48 rfl ?_
        refine am_iadd dX5_setTrack_49 ?_
        refine am_iload_n dX5_setTrack_50 rfl ?_
        refine am_iastore' (F := fX5) (m := mu_up m0 0 (((0 : Int32) + a1)).toNatClampNeg a2) dX5_setTrack_51 rfl hw.1 rfl (fun m8 em8 => ?_)
        have hw := hw.2 m8 em8
        refine am_aload_n dX5_setTrack_52 rfl ?_
        refine am_selfU fam_X5 rfl dX5_setTrack_53 q_X5_setTrack_100 rfl (sX5_change hw) rfl rfl rfl rfl rfl (fun m9 hw => ?_)
        refine am_iload_n dX5_setTrack_56 rfl ?_
        exact am_ireturn dX5_setTrack_57 rfl ⟨_, _, rfl, rfl, hw⟩
      · have hw := hw.2 c6
        refine am_bipush dX5_setTrack_31 bc_m5 ?_
        exact am_ireturn dX5_setTrack_33 rfl ⟨_, _, rfl, rfl, hw⟩

def wX5_setTableLength (a1 : Int32) (m0 : Mu) (K : Int32 → Mu → Prop) : Prop := wX5_in a1 (1 : Int32) (60 : Int32) (fun r1 : Int32 => ((r1 = 0 → K (-4 : Int32) m0) ∧ (¬ r1 = 0 → wX5_used (12 : Int32) m0 (fun r3 : Int32 => ((r3 ≤ a1 → (vp_in (12 : Int32) 148 ∧ ∀ x5 : Int32, x5 = (m0 0 ((12 : Int32)).toNatClampNeg) → (vp_in (12 : Int32) 148 ∧ ∀ m6 : Mu, m6 = mu_up m0 0 ((12 : Int32)).toNatClampNeg a1 → wX5_change m6 (fun m7 : Mu => K x5 m7)))) ∧ (¬ r3 ≤ a1 → K (-5 : Int32) m0))))))
set_option maxRecDepth 20000 in
theorem sX5_setTableLength {a1 : Int32} {m0 : Mu} {K : Int32 → Mu → Prop} (hw : wX5_setTableLength a1 m0 K) : am_Met mX5_setTableLength [.ref 0, .int a1] (fX5 m0) 0 0 (zI fX5 K) := by
  unfold wX5_setTableLength at hw
  refine am_Met.of2 (ls := [some (.ref 0), some (.int a1), none]) pf_X5_setTableLength rfl rfl rfl rfl ?_
  refine am_iload_n dX5_setTableLength_0 rfl ?_
  refine am_iconst dX5_setTableLength_1 ic_1 ?_
  refine am_bipush dX5_setTableLength_2 bc_60 ?_
  refine am_stS dX5_setTableLength_4 q_X5_setTableLength_84 (sX5_in hw) rfl rfl rfl rfl (fun r1 hw => ?_)
  refine am_if_ne 13 dX5_setTableLength_7 (by decide) (fun c2 => ?_) (fun c2 => ?_)
  · have hw := hw.1 c2
    refine am_bipush dX5_setTableLength_10 bc_m4 ?_
    exact am_ireturn dX5_setTableLength_12 rfl ⟨_, _, rfl, rfl, hw⟩
  · have hw := hw.2 c2
    refine am_aload_n dX5_setTableLength_13 rfl ?_
    refine am_bipush dX5_setTableLength_14 bc_12 ?_
    refine am_selfP fam_X5 rfl dX5_setTableLength_16 q_X5_setTableLength_96 rfl (sX5_used hw) rfl rfl rfl rfl rfl (fun r3 hw => ?_)
    refine am_iload_n dX5_setTableLength_19 rfl ?_
    refine am_icmp_le 26 dX5_setTableLength_20 (by decide) (fun c4 => ?_) (fun c4 => ?_)
    · have hw := hw.1 c4
      refine am_aload_n dX5_setTableLength_26 rfl ?_
      refine am_getf dX5_setTableLength_27 fl_X5_7 rfl rfl ?_
      refine am_bipush dX5_setTableLength_30 bc_12 ?_
      refine am_iaload dX5_setTableLength_32 rfl hw.1 ?_
      have hw := hw.2
      refine am_top (fun x5 ex5 => ?_)
      have hw := hw x5 ex5
      refine am_istore_n' (ls' := [some (.ref 0), some (.int a1), some (.int x5)]) dX5_setTableLength_33 rfl rfl rfl ?_
      refine am_aload_n dX5_setTableLength_34 rfl ?_
      refine am_getf dX5_setTableLength_35 fl_X5_7 rfl rfl ?_
      refine am_bipush dX5_setTableLength_38 bc_12 ?_
      refine am_iload_n dX5_setTableLength_40 rfl ?_
      refine am_iastore' (F := fX5) (m := mu_up m0 0 ((12 : Int32)).toNatClampNeg a1) dX5_setTableLength_41 rfl hw.1 rfl (fun m6 em6 => ?_)
      have hw := hw.2 m6 em6
      refine am_aload_n dX5_setTableLength_42 rfl ?_
      refine am_selfU fam_X5 rfl dX5_setTableLength_43 q_X5_setTableLength_100 rfl (sX5_change hw) rfl rfl rfl rfl rfl (fun m7 hw => ?_)
      refine am_iload_n dX5_setTableLength_46 rfl ?_
      exact am_ireturn dX5_setTableLength_47 rfl ⟨_, _, rfl, rfl, hw⟩
    · have hw := hw.2 c4
      refine am_bipush dX5_setTableLength_23 bc_m5 ?_
      exact am_ireturn dX5_setTableLength_25 rfl ⟨_, _, rfl, rfl, hw⟩

def lpX5_insert_11 (K : Mu → Prop)  : Nat → Int32 → Int32 → Int32 → Int32 → Mu → Prop
  | 0, _, _, _, _, _ => False
  | n + 1, v1, v2, v3, v4, m0 => ((v4 ≤ v2 → wX5_cell v1 v2 m0 (fun r3 : Int32 => (vp_in r3 148 ∧ ∀ m4 : Mu, m4 = mu_up m0 0 (r3).toNatClampNeg v3 → (vp_in ((31 : Int32) + v1) 148 ∧ (vp_in ((31 : Int32) + v1) 148 ∧ ∀ m5 : Mu, m5 = mu_up m4 0 (((31 : Int32) + v1)).toNatClampNeg ((m4 0 (((31 : Int32) + v1)).toNatClampNeg) + (1 : Int32)) → K m5))))) ∧ (¬ v4 ≤ v2 → wX5_cell v1 v4 m0 (fun r6 : Int32 => wX5_cell v1 (v4 - (1 : Int32)) m0 (fun r7 : Int32 => (vp_in r7 148 ∧ (vp_in r6 148 ∧ ∀ m8 : Mu, m8 = mu_up m0 0 (r6).toNatClampNeg (m0 0 (r7).toNatClampNeg) → ∀ x9 : Int32, x9 = v4 + (-1 : Int32) → lpX5_insert_11 K n v1 v2 v3 x9 m8))))))
set_option maxRecDepth 20000 in
theorem slpX5_insert_11 {K : Mu → Prop} : ∀ (n : Nat) (v1 v2 v3 v4 : Int32) (m0 : Mu), lpX5_insert_11 K n v1 v2 v3 v4 m0 → am_Ok mX5_insert none (zV fX5 K) 0 0 11 [some (.ref 0), some (.int v1), some (.int v2), some (.int v3), some (.int v4)] [] (fX5 m0) := by
  intro n
  induction n with
  | zero => intro v1 v2 v3 v4 m0 hw; exact False.elim hw
  | succ n ih =>
    intro v1 v2 v3 v4 m0 hw
    unfold lpX5_insert_11 at hw
    refine am_iload dX5_insert_11 rfl ?_
    refine am_iload_n dX5_insert_13 rfl ?_
    refine am_icmp_le 49 dX5_insert_14 (by decide) (fun c2 => ?_) (fun c2 => ?_)
    · have hw := hw.1 c2
      refine am_aload_n dX5_insert_49 rfl ?_
      refine am_getf dX5_insert_50 fl_X5_7 rfl rfl ?_
      refine am_aload_n dX5_insert_53 rfl ?_
      refine am_iload_n dX5_insert_54 rfl ?_
      refine am_iload_n dX5_insert_55 rfl ?_
      refine am_selfP fam_X5 rfl dX5_insert_56 q_X5_insert_88 rfl (sX5_cell hw) rfl rfl rfl rfl rfl (fun r3 hw => ?_)
      refine am_iload_n dX5_insert_59 rfl ?_
      refine am_iastore' (F := fX5) (m := mu_up m0 0 (r3).toNatClampNeg v3) dX5_insert_60 rfl hw.1 rfl (fun m4 em4 => ?_)
      have hw := hw.2 m4 em4
      refine am_aload_n dX5_insert_61 rfl ?_
      refine am_getf dX5_insert_62 fl_X5_7 rfl rfl ?_
      refine am_bipush dX5_insert_65 bc_31 ?_
      refine am_iload_n dX5_insert_67 rfl ?_
      refine am_iadd dX5_insert_68 ?_
      refine am_dup2 dX5_insert_69 rfl rfl ?_
      refine am_iaload dX5_insert_70 rfl hw.1 ?_
      have hw := hw.2
      refine am_iconst dX5_insert_71 ic_1 ?_
      refine am_iadd dX5_insert_72 ?_
      refine am_iastore' (F := fX5) (m := mu_up m4 0 (((31 : Int32) + v1)).toNatClampNeg ((m4 0 (((31 : Int32) + v1)).toNatClampNeg) + (1 : Int32))) dX5_insert_73 rfl hw.1 rfl (fun m5 em5 => ?_)
      have hw := hw.2 m5 em5
      exact am_vreturn dX5_insert_74 rfl ⟨_, rfl, rfl, hw⟩
    · have hw := hw.2 c2
      refine am_aload_n dX5_insert_17 rfl ?_
      refine am_getf dX5_insert_18 fl_X5_7 rfl rfl ?_
      refine am_aload_n dX5_insert_21 rfl ?_
      refine am_iload_n dX5_insert_22 rfl ?_
      refine am_iload dX5_insert_23 rfl ?_
      refine am_selfP fam_X5 rfl dX5_insert_25 q_X5_insert_88 rfl (sX5_cell hw) rfl rfl rfl rfl rfl (fun r6 hw => ?_)
      refine am_aload_n dX5_insert_28 rfl ?_
      refine am_getf dX5_insert_29 fl_X5_7 rfl rfl ?_
      refine am_aload_n dX5_insert_32 rfl ?_
      refine am_iload_n dX5_insert_33 rfl ?_
      refine am_iload dX5_insert_34 rfl ?_
      refine am_iconst dX5_insert_36 ic_1 ?_
      refine am_isub dX5_insert_37 ?_
      refine am_selfP fam_X5 rfl dX5_insert_38 q_X5_insert_88 rfl (sX5_cell hw) rfl rfl rfl rfl rfl (fun r7 hw => ?_)
      refine am_iaload dX5_insert_41 rfl hw.1 ?_
      have hw := hw.2
      refine am_iastore' (F := fX5) (m := mu_up m0 0 (r6).toNatClampNeg (m0 0 (r7).toNatClampNeg)) dX5_insert_42 rfl hw.1 rfl (fun m8 em8 => ?_)
      have hw := hw.2 m8 em8
      refine am_iinc' (lf := fun y9 => [some (.ref 0), some (.int v1), some (.int v2), some (.int v3), some (.int y9)]) dX5_insert_43 rfl rfl rfl ic_m1 (fun _ => rfl) (fun x9 ex9 => ?_)
      have hw := hw x9 ex9
      refine am_goto 11 dX5_insert_46 (by decide) ?_
      refine am_forget (ls' := [some (.ref 0), some (.int v1), some (.int v2), some (.int v3), some (.int x9)]) [true, true, true, true, true] rfl ?_
      exact ih _ _ _ _ _ hw
def wX5_insert (a1 a2 a3 : Int32) (m0 : Mu) (K : Mu → Prop) : Prop := (vp_in ((31 : Int32) + a1) 148 ∧ ∀ x1 : Int32, x1 = (m0 0 (((31 : Int32) + a1)).toNatClampNeg) → (∃ n10 : Nat, lpX5_insert_11 K n10 a1 a2 a3 x1 m0))
set_option maxRecDepth 20000 in
theorem sX5_insert {a1 a2 a3 : Int32} {m0 : Mu} {K : Mu → Prop} (hw : wX5_insert a1 a2 a3 m0 K) : am_Met mX5_insert [.ref 0, .int a1, .int a2, .int a3] (fX5 m0) 0 0 (zV fX5 K) := by
  unfold wX5_insert at hw
  refine am_Met.of2 (ls := [some (.ref 0), some (.int a1), some (.int a2), some (.int a3), none]) pf_X5_insert rfl rfl rfl rfl ?_
  refine am_aload_n dX5_insert_0 rfl ?_
  refine am_getf dX5_insert_1 fl_X5_7 rfl rfl ?_
  refine am_bipush dX5_insert_4 bc_31 ?_
  refine am_iload_n dX5_insert_6 rfl ?_
  refine am_iadd dX5_insert_7 ?_
  refine am_iaload dX5_insert_8 rfl hw.1 ?_
  have hw := hw.2
  refine am_top (fun x1 ex1 => ?_)
  have hw := hw x1 ex1
  refine am_istore' (ls' := [some (.ref 0), some (.int a1), some (.int a2), some (.int a3), some (.int x1)]) dX5_insert_9 rfl rfl rfl ?_
  obtain ⟨n10, hw⟩ := hw
  refine am_forget (ls' := [some (.ref 0), some (.int a1), some (.int a2), some (.int a3), some (.int x1)]) [true, true, true, true, true] rfl ?_
  exact slpX5_insert_11  n10 _ _ _ _ _ hw

def lpX5_take_28 (K : Int32 → Mu → Prop)  : Nat → Int32 → Int32 → Int32 → Mu → Prop
  | 0, _, _, _, _ => False
  | n + 1, v1, v3, v4, m0 => (vp_in ((31 : Int32) + v1) 148 ∧ (((m0 0 (((31 : Int32) + v1)).toNatClampNeg) ≤ v4 → K v3 m0) ∧ (¬ (m0 0 (((31 : Int32) + v1)).toNatClampNeg) ≤ v4 → wX5_cell v1 v4 m0 (fun r5 : Int32 => wX5_cell v1 (v4 + (1 : Int32)) m0 (fun r6 : Int32 => (vp_in r6 148 ∧ (vp_in r5 148 ∧ ∀ m7 : Mu, m7 = mu_up m0 0 (r5).toNatClampNeg (m0 0 (r6).toNatClampNeg) → ∀ x8 : Int32, x8 = v4 + (1 : Int32) → lpX5_take_28 K n v1 v3 x8 m7)))))))
set_option maxRecDepth 20000 in
theorem slpX5_take_28 {K : Int32 → Mu → Prop} : ∀ (n : Nat) (v1 v3 v4 : Int32) (m0 : Mu), lpX5_take_28 K n v1 v3 v4 m0 → am_Ok mX5_take none (zI fX5 K) 0 0 28 [some (.ref 0), some (.int v1), none, some (.int v3), some (.int v4)] [] (fX5 m0) := by
  intro n
  induction n with
  | zero => intro v1 v3 v4 m0 hw; exact False.elim hw
  | succ n ih =>
    intro v1 v3 v4 m0 hw
    unfold lpX5_take_28 at hw
    refine am_iload dX5_take_28 rfl ?_
    refine am_aload_n dX5_take_30 rfl ?_
    refine am_getf dX5_take_31 fl_X5_7 rfl rfl ?_
    refine am_bipush dX5_take_34 bc_31 ?_
    refine am_iload_n dX5_take_36 rfl ?_
    refine am_iadd dX5_take_37 ?_
    refine am_iaload dX5_take_38 rfl hw.1 ?_
    have hw := hw.2
    refine am_icmp_ge 74 dX5_take_39 (by decide) (fun c4 => ?_) (fun c4 => ?_)
    · have hw := hw.1 c4
      refine am_iload_n dX5_take_74 rfl ?_
      exact am_ireturn dX5_take_75 rfl ⟨_, _, rfl, rfl, hw⟩
    · have hw := hw.2 c4
      refine am_aload_n dX5_take_42 rfl ?_
      refine am_getf dX5_take_43 fl_X5_7 rfl rfl ?_
      refine am_aload_n dX5_take_46 rfl ?_
      refine am_iload_n dX5_take_47 rfl ?_
      refine am_iload dX5_take_48 rfl ?_
      refine am_selfP fam_X5 rfl dX5_take_50 q_X5_take_88 rfl (sX5_cell hw) rfl rfl rfl rfl rfl (fun r5 hw => ?_)
      refine am_aload_n dX5_take_53 rfl ?_
      refine am_getf dX5_take_54 fl_X5_7 rfl rfl ?_
      refine am_aload_n dX5_take_57 rfl ?_
      refine am_iload_n dX5_take_58 rfl ?_
      refine am_iload dX5_take_59 rfl ?_
      refine am_iconst dX5_take_61 ic_1 ?_
      refine am_iadd dX5_take_62 ?_
      refine am_selfP fam_X5 rfl dX5_take_63 q_X5_take_88 rfl (sX5_cell hw) rfl rfl rfl rfl rfl (fun r6 hw => ?_)
      refine am_iaload dX5_take_66 rfl hw.1 ?_
      have hw := hw.2
      refine am_iastore' (F := fX5) (m := mu_up m0 0 (r5).toNatClampNeg (m0 0 (r6).toNatClampNeg)) dX5_take_67 rfl hw.1 rfl (fun m7 em7 => ?_)
      have hw := hw.2 m7 em7
      refine am_iinc' (lf := fun y9 => [some (.ref 0), some (.int v1), none, some (.int v3), some (.int y9)]) dX5_take_68 rfl rfl rfl ic_1 (fun _ => rfl) (fun x8 ex8 => ?_)
      have hw := hw x8 ex8
      refine am_goto 28 dX5_take_71 (by decide) ?_
      refine am_forget (ls' := [some (.ref 0), some (.int v1), none, some (.int v3), some (.int x8)]) [true, true, false, true, true] rfl ?_
      exact ih _ _ _ _ hw
def wX5_take (a1 a2 : Int32) (m0 : Mu) (K : Int32 → Mu → Prop) : Prop := wX5_cell a1 a2 m0 (fun r1 : Int32 => (vp_in r1 148 ∧ ∀ x2 : Int32, x2 = (m0 0 (r1).toNatClampNeg) → (vp_in ((31 : Int32) + a1) 148 ∧ (vp_in ((31 : Int32) + a1) 148 ∧ ∀ m3 : Mu, m3 = mu_up m0 0 (((31 : Int32) + a1)).toNatClampNeg ((m0 0 (((31 : Int32) + a1)).toNatClampNeg) - (1 : Int32)) → (∃ n9 : Nat, lpX5_take_28 K n9 a1 x2 a2 m3)))))
set_option maxRecDepth 20000 in
theorem sX5_take {a1 a2 : Int32} {m0 : Mu} {K : Int32 → Mu → Prop} (hw : wX5_take a1 a2 m0 K) : am_Met mX5_take [.ref 0, .int a1, .int a2] (fX5 m0) 0 0 (zI fX5 K) := by
  unfold wX5_take at hw
  refine am_Met.of2 (ls := [some (.ref 0), some (.int a1), some (.int a2), none, none]) pf_X5_take rfl rfl rfl rfl ?_
  refine am_aload_n dX5_take_0 rfl ?_
  refine am_getf dX5_take_1 fl_X5_7 rfl rfl ?_
  refine am_aload_n dX5_take_4 rfl ?_
  refine am_iload_n dX5_take_5 rfl ?_
  refine am_iload_n dX5_take_6 rfl ?_
  refine am_selfP fam_X5 rfl dX5_take_7 q_X5_take_88 rfl (sX5_cell hw) rfl rfl rfl rfl rfl (fun r1 hw => ?_)
  refine am_iaload dX5_take_10 rfl hw.1 ?_
  have hw := hw.2
  refine am_top (fun x2 ex2 => ?_)
  have hw := hw x2 ex2
  refine am_istore_n' (ls' := [some (.ref 0), some (.int a1), some (.int a2), some (.int x2), none]) dX5_take_11 rfl rfl rfl ?_
  refine am_aload_n dX5_take_12 rfl ?_
  refine am_getf dX5_take_13 fl_X5_7 rfl rfl ?_
  refine am_bipush dX5_take_16 bc_31 ?_
  refine am_iload_n dX5_take_18 rfl ?_
  refine am_iadd dX5_take_19 ?_
  refine am_dup2 dX5_take_20 rfl rfl ?_
  refine am_iaload dX5_take_21 rfl hw.1 ?_
  have hw := hw.2
  refine am_iconst dX5_take_22 ic_1 ?_
  refine am_isub dX5_take_23 ?_
  refine am_iastore' (F := fX5) (m := mu_up m0 0 (((31 : Int32) + a1)).toNatClampNeg ((m0 0 (((31 : Int32) + a1)).toNatClampNeg) - (1 : Int32))) dX5_take_24 rfl hw.1 rfl (fun m3 em3 => ?_)
  have hw := hw.2 m3 em3
  refine am_iload_n dX5_take_25 rfl ?_
  refine am_istore' (ls' := [some (.ref 0), some (.int a1), some (.int a2), some (.int x2), some (.int a2)]) dX5_take_26 rfl rfl rfl ?_
  obtain ⟨n9, hw⟩ := hw
  refine am_forget (ls' := [some (.ref 0), some (.int a1), none, some (.int x2), some (.int a2)]) [true, true, false, true, true] rfl ?_
  exact slpX5_take_28  n9 _ _ _ _ hw

def wX5_addLocomotive (a1 a2 : Int32) (m0 : Mu) (K : Int32 → Mu → Prop) : Prop := wX5_isPosition a2 (fun r1 : Int32 => ((r1 = 0 → K (-1 : Int32) m0) ∧ (¬ r1 = 0 → wX5_isTrack a2 m0 (fun r3 : Int32 => ((r3 = 0 → K (-2 : Int32) m0) ∧ (¬ r3 = 0 → wX5_in a1 (1 : Int32) (20 : Int32) (fun r5 : Int32 => ((r5 = 0 → K (-4 : Int32) m0) ∧ (¬ r5 = 0 → wX5_used a2 m0 (fun r7 : Int32 => (vp_in ((0 : Int32) + a2) 148 ∧ (((r7 + a1) ≤ (m0 0 (((0 : Int32) + a2)).toNatClampNeg) → (vp_in (14 : Int32) 148 ∧ (((m0 0 ((14 : Int32)).toNatClampNeg) = (8 : Int32) → K (-9 : Int32) m0) ∧ (¬ (m0 0 ((14 : Int32)).toNatClampNeg) = (8 : Int32) → (vp_in (14 : Int32) 148 ∧ ∀ x10 : Int32, x10 = (m0 0 ((14 : Int32)).toNatClampNeg) → (vp_in ((15 : Int32) + x10) 148 ∧ ∀ m11 : Mu, m11 = mu_up m0 0 (((15 : Int32) + x10)).toNatClampNeg a1 → (vp_in ((23 : Int32) + x10) 148 ∧ ∀ m12 : Mu, m12 = mu_up m11 0 (((23 : Int32) + x10)).toNatClampNeg (0 : Int32) → (vp_in (14 : Int32) 148 ∧ (vp_in (14 : Int32) 148 ∧ ∀ m13 : Mu, m13 = mu_up m12 0 ((14 : Int32)).toNatClampNeg ((m12 0 ((14 : Int32)).toNatClampNeg) + (1 : Int32)) → wX5_insert a2 (0 : Int32) x10 m13 (fun m14 : Mu => wX5_change m14 (fun m15 : Mu => K x10 m15))))))))))) ∧ (¬ (r7 + a1) ≤ (m0 0 (((0 : Int32) + a2)).toNatClampNeg) → K (-8 : Int32) m0)))))))))))))
set_option maxRecDepth 20000 in
theorem sX5_addLocomotive {a1 a2 : Int32} {m0 : Mu} {K : Int32 → Mu → Prop} (hw : wX5_addLocomotive a1 a2 m0 K) : am_Met mX5_addLocomotive [.ref 0, .int a1, .int a2] (fX5 m0) 0 0 (zI fX5 K) := by
  unfold wX5_addLocomotive at hw
  refine am_Met.of2 (ls := [some (.ref 0), some (.int a1), some (.int a2), none]) pf_X5_addLocomotive rfl rfl rfl rfl ?_
  refine am_iload_n dX5_addLocomotive_0 rfl ?_
  refine am_stS dX5_addLocomotive_1 q_X5_addLocomotive_92 (sX5_isPosition hw) rfl rfl rfl rfl (fun r1 hw => ?_)
  refine am_if_ne 9 dX5_addLocomotive_4 (by decide) (fun c2 => ?_) (fun c2 => ?_)
  · have hw := hw.1 c2
    refine am_iconst dX5_addLocomotive_7 ic_m1 ?_
    exact am_ireturn dX5_addLocomotive_8 rfl ⟨_, _, rfl, rfl, hw⟩
  · have hw := hw.2 c2
    refine am_aload_n dX5_addLocomotive_9 rfl ?_
    refine am_iload_n dX5_addLocomotive_10 rfl ?_
    refine am_selfP fam_X5 rfl dX5_addLocomotive_11 q_X5_addLocomotive_103 rfl (sX5_isTrack hw) rfl rfl rfl rfl rfl (fun r3 hw => ?_)
    refine am_if_ne 20 dX5_addLocomotive_14 (by decide) (fun c4 => ?_) (fun c4 => ?_)
    · have hw := hw.1 c4
      refine am_bipush dX5_addLocomotive_17 bc_m2 ?_
      exact am_ireturn dX5_addLocomotive_19 rfl ⟨_, _, rfl, rfl, hw⟩
    · have hw := hw.2 c4
      refine am_iload_n dX5_addLocomotive_20 rfl ?_
      refine am_iconst dX5_addLocomotive_21 ic_1 ?_
      refine am_bipush dX5_addLocomotive_22 bc_20 ?_
      refine am_stS dX5_addLocomotive_24 q_X5_addLocomotive_84 (sX5_in hw) rfl rfl rfl rfl (fun r5 hw => ?_)
      refine am_if_ne 33 dX5_addLocomotive_27 (by decide) (fun c6 => ?_) (fun c6 => ?_)
      · have hw := hw.1 c6
        refine am_bipush dX5_addLocomotive_30 bc_m4 ?_
        exact am_ireturn dX5_addLocomotive_32 rfl ⟨_, _, rfl, rfl, hw⟩
      · have hw := hw.2 c6
        refine am_aload_n dX5_addLocomotive_33 rfl ?_
        refine am_iload_n dX5_addLocomotive_34 rfl ?_
        refine am_selfP fam_X5 rfl dX5_addLocomotive_35 q_X5_addLocomotive_96 rfl (sX5_used hw) rfl rfl rfl rfl rfl (fun r7 hw => ?_)
        refine am_iload_n dX5_addLocomotive_38 rfl ?_
        refine am_iadd dX5_addLocomotive_39 ?_
        refine am_aload_n dX5_addLocomotive_40 rfl ?_
        refine am_getf dX5_addLocomotive_41 fl_X5_7 rfl rfl ?_
        refine am_iconst dX5_addLocomotive_44 ic_0 ?_
        refine am_iload_n dX5_addLocomotive_45 rfl ?_
        refine am_iadd dX5_addLocomotive_46 ?_
        refine am_iaload dX5_addLocomotive_47 rfl hw.1 ?_
        have hw := hw.2
        refine am_icmp_le 54 dX5_addLocomotive_48 (by decide) (fun c8 => ?_) (fun c8 => ?_)
        · have hw := hw.1 c8
          refine am_aload_n dX5_addLocomotive_54 rfl ?_
          refine am_getf dX5_addLocomotive_55 fl_X5_7 rfl rfl ?_
          refine am_bipush dX5_addLocomotive_58 bc_14 ?_
          refine am_iaload dX5_addLocomotive_60 rfl hw.1 ?_
          have hw := hw.2
          refine am_bipush dX5_addLocomotive_61 bc_8 ?_
          refine am_icmp_ne 69 dX5_addLocomotive_63 (by decide) (fun c9 => ?_) (fun c9 => ?_)
          · have hw := hw.1 c9
            refine am_bipush dX5_addLocomotive_66 bc_m9 ?_
            exact am_ireturn dX5_addLocomotive_68 rfl ⟨_, _, rfl, rfl, hw⟩
          · have hw := hw.2 c9
            refine am_aload_n dX5_addLocomotive_69 rfl ?_
            refine am_getf dX5_addLocomotive_70 fl_X5_7 rfl rfl ?_
            refine am_bipush dX5_addLocomotive_73 bc_14 ?_
            refine am_iaload dX5_addLocomotive_75 rfl hw.1 ?_
            have hw := hw.2
            refine am_top (fun x10 ex10 => ?_)
            have hw := hw x10 ex10
            refine am_istore_n' (ls' := [some (.ref 0), some (.int a1), some (.int a2), some (.int x10)]) dX5_addLocomotive_76 rfl rfl rfl ?_
            refine am_aload_n dX5_addLocomotive_77 rfl ?_
            refine am_getf dX5_addLocomotive_78 fl_X5_7 rfl rfl ?_
            refine am_bipush dX5_addLocomotive_81 bc_15 ?_
            refine am_iload_n dX5_addLocomotive_83 rfl ?_
            refine am_iadd dX5_addLocomotive_84 ?_
            refine am_iload_n dX5_addLocomotive_85 rfl ?_
            refine am_iastore' (F := fX5) (m := mu_up m0 0 (((15 : Int32) + x10)).toNatClampNeg a1) dX5_addLocomotive_86 rfl hw.1 rfl (fun m11 em11 => ?_)
            have hw := hw.2 m11 em11
            refine am_aload_n dX5_addLocomotive_87 rfl ?_
            refine am_getf dX5_addLocomotive_88 fl_X5_7 rfl rfl ?_
            refine am_bipush dX5_addLocomotive_91 bc_23 ?_
            refine am_iload_n dX5_addLocomotive_93 rfl ?_
            refine am_iadd dX5_addLocomotive_94 ?_
            refine am_iconst dX5_addLocomotive_95 ic_0 ?_
            refine am_iastore' (F := fX5) (m := mu_up m11 0 (((23 : Int32) + x10)).toNatClampNeg (0 : Int32)) dX5_addLocomotive_96 rfl hw.1 rfl (fun m12 em12 => ?_)
            have hw := hw.2 m12 em12
            refine am_aload_n dX5_addLocomotive_97 rfl ?_
            refine am_getf dX5_addLocomotive_98 fl_X5_7 rfl rfl ?_
            refine am_bipush dX5_addLocomotive_101 bc_14 ?_
            refine am_dup2 dX5_addLocomotive_103 rfl rfl ?_
            refine am_iaload dX5_addLocomotive_104 rfl hw.1 ?_
            have hw := hw.2
            refine am_iconst dX5_addLocomotive_105 ic_1 ?_
            refine am_iadd dX5_addLocomotive_106 ?_
            refine am_iastore' (F := fX5) (m := mu_up m12 0 ((14 : Int32)).toNatClampNeg ((m12 0 ((14 : Int32)).toNatClampNeg) + (1 : Int32))) dX5_addLocomotive_107 rfl hw.1 rfl (fun m13 em13 => ?_)
            have hw := hw.2 m13 em13
            refine am_aload_n dX5_addLocomotive_108 rfl ?_
            refine am_iload_n dX5_addLocomotive_109 rfl ?_
            refine am_iconst dX5_addLocomotive_110 ic_0 ?_
            refine am_iload_n dX5_addLocomotive_111 rfl ?_
            refine am_selfU fam_X5 rfl dX5_addLocomotive_112 q_X5_addLocomotive_106 rfl (sX5_insert hw) rfl rfl rfl rfl rfl (fun m14 hw => ?_)
            refine am_aload_n dX5_addLocomotive_115 rfl ?_
            refine am_selfU fam_X5 rfl dX5_addLocomotive_116 q_X5_addLocomotive_100 rfl (sX5_change hw) rfl rfl rfl rfl rfl (fun m15 hw => ?_)
            refine am_iload_n dX5_addLocomotive_119 rfl ?_
            exact am_ireturn dX5_addLocomotive_120 rfl ⟨_, _, rfl, rfl, hw⟩
        · have hw := hw.2 c8
          refine am_bipush dX5_addLocomotive_51 bc_m8 ?_
          exact am_ireturn dX5_addLocomotive_53 rfl ⟨_, _, rfl, rfl, hw⟩

def lpX5_placeOf_10 (m0 : Mu) (K : Int32 → Prop) (X0 : Int32 → Int32 → Prop) : Nat → Int32 → Int32 → Int32 → Prop
  | 0, _, _, _ => False
  | n + 1, v1, v2, v3 => (vp_in ((31 : Int32) + v2) 148 ∧ (((m0 0 (((31 : Int32) + v2)).toNatClampNeg) ≤ v3 → ∀ x3 : Int32, x3 = v2 + (1 : Int32) → X0 v1 x3) ∧ (¬ (m0 0 (((31 : Int32) + v2)).toNatClampNeg) ≤ v3 → wX5_cell v2 v3 m0 (fun r4 : Int32 => (vp_in r4 148 ∧ (((m0 0 (r4).toNatClampNeg) = v1 → K v2) ∧ (¬ (m0 0 (r4).toNatClampNeg) = v1 → ∀ x6 : Int32, x6 = v3 + (1 : Int32) → lpX5_placeOf_10 m0 K X0 n v1 v2 x6)))))))
set_option maxRecDepth 20000 in
theorem slpX5_placeOf_10 {m0 : Mu} {K : Int32 → Prop} {X0 : Int32 → Int32 → Prop} (hX0 : ∀ (a0 a1 : Int32), X0 a0 a1 → am_Ok mX5_placeOf none (zP (fX5 m0) K) 0 0 2 [some (.ref 0), some (.int a0), some (.int a1), none] [] (fX5 m0)) : ∀ (n : Nat) (v1 v2 v3 : Int32), lpX5_placeOf_10 m0 K X0 n v1 v2 v3 → am_Ok mX5_placeOf none (zP (fX5 m0) K) 0 0 10 [some (.ref 0), some (.int v1), some (.int v2), some (.int v3)] [] (fX5 m0) := by
  intro n
  induction n with
  | zero => intro v1 v2 v3 hw; exact False.elim hw
  | succ n ih =>
    intro v1 v2 v3 hw
    unfold lpX5_placeOf_10 at hw
    refine am_iload_n dX5_placeOf_10 rfl ?_
    refine am_aload_n dX5_placeOf_11 rfl ?_
    refine am_getf dX5_placeOf_12 fl_X5_7 rfl rfl ?_
    refine am_bipush dX5_placeOf_15 bc_31 ?_
    refine am_iload_n dX5_placeOf_17 rfl ?_
    refine am_iadd dX5_placeOf_18 ?_
    refine am_iaload dX5_placeOf_19 rfl hw.1 ?_
    have hw := hw.2
    refine am_icmp_ge 46 dX5_placeOf_20 (by decide) (fun c2 => ?_) (fun c2 => ?_)
    · have hw := hw.1 c2
      refine am_iinc' (lf := fun y9 => [some (.ref 0), some (.int v1), some (.int y9), some (.int v3)]) dX5_placeOf_46 rfl rfl rfl ic_1 (fun _ => rfl) (fun x3 ex3 => ?_)
      have hw := hw x3 ex3
      refine am_goto 2 dX5_placeOf_49 (by decide) ?_
      refine am_forget (ls' := [some (.ref 0), some (.int v1), some (.int x3), none]) [true, true, true, false] rfl ?_
      exact hX0 _ _ hw
    · have hw := hw.2 c2
      refine am_aload_n dX5_placeOf_23 rfl ?_
      refine am_getf dX5_placeOf_24 fl_X5_7 rfl rfl ?_
      refine am_aload_n dX5_placeOf_27 rfl ?_
      refine am_iload_n dX5_placeOf_28 rfl ?_
      refine am_iload_n dX5_placeOf_29 rfl ?_
      refine am_selfP fam_X5 rfl dX5_placeOf_30 q_X5_placeOf_88 rfl (sX5_cell hw) rfl rfl rfl rfl rfl (fun r4 hw => ?_)
      refine am_iaload dX5_placeOf_33 rfl hw.1 ?_
      have hw := hw.2
      refine am_iload_n dX5_placeOf_34 rfl ?_
      refine am_icmp_ne 40 dX5_placeOf_35 (by decide) (fun c5 => ?_) (fun c5 => ?_)
      · have hw := hw.1 c5
        refine am_iload_n dX5_placeOf_38 rfl ?_
        exact am_ireturn dX5_placeOf_39 rfl ⟨_, rfl, rfl, hw⟩
      · have hw := hw.2 c5
        refine am_iinc' (lf := fun y9 => [some (.ref 0), some (.int v1), some (.int v2), some (.int y9)]) dX5_placeOf_40 rfl rfl rfl ic_1 (fun _ => rfl) (fun x6 ex6 => ?_)
        have hw := hw x6 ex6
        refine am_goto 10 dX5_placeOf_43 (by decide) ?_
        refine am_forget (ls' := [some (.ref 0), some (.int v1), some (.int v2), some (.int x6)]) [true, true, true, true] rfl ?_
        exact ih _ _ _ hw
def lpX5_placeOf_2 (m0 : Mu) (K : Int32 → Prop)  : Nat → Int32 → Int32 → Prop
  | 0, _, _ => False
  | n + 1, v1, v2 => (((13 : Int32) ≤ v2 → K (-11 : Int32)) ∧ (¬ (13 : Int32) ≤ v2 → (∃ n7 : Nat, lpX5_placeOf_10 m0 K (fun a0 a1 => lpX5_placeOf_2 m0 K n a0 a1) n7 v1 v2 (0 : Int32))))
set_option maxRecDepth 20000 in
theorem slpX5_placeOf_2 {m0 : Mu} {K : Int32 → Prop} : ∀ (n : Nat) (v1 v2 : Int32), lpX5_placeOf_2 m0 K n v1 v2 → am_Ok mX5_placeOf none (zP (fX5 m0) K) 0 0 2 [some (.ref 0), some (.int v1), some (.int v2), none] [] (fX5 m0) := by
  intro n
  induction n with
  | zero => intro v1 v2 hw; exact False.elim hw
  | succ n ih =>
    intro v1 v2 hw
    unfold lpX5_placeOf_2 at hw
    refine am_iload_n dX5_placeOf_2 rfl ?_
    refine am_bipush dX5_placeOf_3 bc_13 ?_
    refine am_icmp_ge 52 dX5_placeOf_5 (by decide) (fun c1 => ?_) (fun c1 => ?_)
    · have hw := hw.1 c1
      refine am_bipush dX5_placeOf_52 bc_m11 ?_
      exact am_ireturn dX5_placeOf_54 rfl ⟨_, rfl, rfl, hw⟩
    · have hw := hw.2 c1
      refine am_iconst dX5_placeOf_8 ic_0 ?_
      refine am_istore_n' (ls' := [some (.ref 0), some (.int v1), some (.int v2), some (.int (0 : Int32))]) dX5_placeOf_9 rfl rfl rfl ?_
      obtain ⟨n7, hw⟩ := hw
      refine am_forget (ls' := [some (.ref 0), some (.int v1), some (.int v2), some (.int (0 : Int32))]) [true, true, true, true] rfl ?_
      exact slpX5_placeOf_10 (fun a0 a1 hq => ih a0 a1 hq) n7 _ _ _ hw
def wX5_placeOf (a1 : Int32) (m0 : Mu) (K : Int32 → Prop) : Prop := (∃ n8 : Nat, lpX5_placeOf_2 m0 K n8 a1 (0 : Int32))
set_option maxRecDepth 20000 in
theorem sX5_placeOf {a1 : Int32} {m0 : Mu} {K : Int32 → Prop} (hw : wX5_placeOf a1 m0 K) : am_Met mX5_placeOf [.ref 0, .int a1] (fX5 m0) 0 0 (zP (fX5 m0) K) := by
  unfold wX5_placeOf at hw
  refine am_Met.of2 (ls := [some (.ref 0), some (.int a1), none, none]) pf_X5_placeOf rfl rfl rfl rfl ?_
  refine am_iconst dX5_placeOf_0 ic_0 ?_
  refine am_istore_n' (ls' := [some (.ref 0), some (.int a1), some (.int (0 : Int32)), none]) dX5_placeOf_1 rfl rfl rfl ?_
  obtain ⟨n8, hw⟩ := hw
  refine am_forget (ls' := [some (.ref 0), some (.int a1), some (.int (0 : Int32)), none]) [true, true, true, false] rfl ?_
  exact slpX5_placeOf_2  n8 _ _ hw

def lpX5_removeLocomotive_31 (K : Int32 → Mu → Prop)  : Nat → Int32 → Int32 → Int32 → Mu → Prop
  | 0, _, _, _, _ => False
  | n + 1, v1, v2, v3, m0 => wX5_cell v2 v3 m0 (fun r4 : Int32 => (vp_in r4 148 ∧ (((m0 0 (r4).toNatClampNeg) = v1 → wX5_take v2 v3 m0 (fun (r6 : Int32) (m7 : Mu) => (vp_in (14 : Int32) 148 ∧ (vp_in (14 : Int32) 148 ∧ ∀ m8 : Mu, m8 = mu_up m7 0 ((14 : Int32)).toNatClampNeg ((m7 0 ((14 : Int32)).toNatClampNeg) - (1 : Int32)) → wX5_change m8 (fun m9 : Mu => (vp_in (14 : Int32) 148 ∧ K (m9 0 ((14 : Int32)).toNatClampNeg) m9)))))) ∧ (¬ (m0 0 (r4).toNatClampNeg) = v1 → ∀ x10 : Int32, x10 = v3 + (1 : Int32) → lpX5_removeLocomotive_31 K n v1 v2 x10 m0))))
set_option maxRecDepth 20000 in
theorem slpX5_removeLocomotive_31 {K : Int32 → Mu → Prop} : ∀ (n : Nat) (v1 v2 v3 : Int32) (m0 : Mu), lpX5_removeLocomotive_31 K n v1 v2 v3 m0 → am_Ok mX5_removeLocomotive none (zI fX5 K) 0 0 31 [some (.ref 0), some (.int v1), some (.int v2), some (.int v3), none] [] (fX5 m0) := by
  intro n
  induction n with
  | zero => intro v1 v2 v3 m0 hw; exact False.elim hw
  | succ n ih =>
    intro v1 v2 v3 m0 hw
    unfold lpX5_removeLocomotive_31 at hw
    refine am_aload_n dX5_removeLocomotive_31 rfl ?_
    refine am_getf dX5_removeLocomotive_32 fl_X5_7 rfl rfl ?_
    refine am_aload_n dX5_removeLocomotive_35 rfl ?_
    refine am_iload_n dX5_removeLocomotive_36 rfl ?_
    refine am_iload_n dX5_removeLocomotive_37 rfl ?_
    refine am_selfP fam_X5 rfl dX5_removeLocomotive_38 q_X5_removeLocomotive_88 rfl (sX5_cell hw) rfl rfl rfl rfl rfl (fun r4 hw => ?_)
    refine am_iaload dX5_removeLocomotive_41 rfl hw.1 ?_
    have hw := hw.2
    refine am_iload_n dX5_removeLocomotive_42 rfl ?_
    refine am_icmp_eq 52 dX5_removeLocomotive_43 (by decide) (fun c5 => ?_) (fun c5 => ?_)
    · have hw := hw.1 c5
      refine am_aload_n dX5_removeLocomotive_52 rfl ?_
      refine am_iload_n dX5_removeLocomotive_53 rfl ?_
      refine am_iload_n dX5_removeLocomotive_54 rfl ?_
      refine am_selfI fam_X5 rfl dX5_removeLocomotive_55 q_X5_removeLocomotive_113 rfl (sX5_take hw) rfl rfl rfl rfl rfl (fun r6 m7 hw => ?_)
      refine am_istore' (ls' := [some (.ref 0), some (.int v1), some (.int v2), some (.int v3), some (.int r6)]) dX5_removeLocomotive_58 rfl rfl rfl ?_
      refine am_aload_n dX5_removeLocomotive_60 rfl ?_
      refine am_getf dX5_removeLocomotive_61 fl_X5_7 rfl rfl ?_
      refine am_bipush dX5_removeLocomotive_64 bc_14 ?_
      refine am_dup2 dX5_removeLocomotive_66 rfl rfl ?_
      refine am_iaload dX5_removeLocomotive_67 rfl hw.1 ?_
      have hw := hw.2
      refine am_iconst dX5_removeLocomotive_68 ic_1 ?_
      refine am_isub dX5_removeLocomotive_69 ?_
      refine am_iastore' (F := fX5) (m := mu_up m7 0 ((14 : Int32)).toNatClampNeg ((m7 0 ((14 : Int32)).toNatClampNeg) - (1 : Int32))) dX5_removeLocomotive_70 rfl hw.1 rfl (fun m8 em8 => ?_)
      have hw := hw.2 m8 em8
      refine am_aload_n dX5_removeLocomotive_71 rfl ?_
      refine am_selfU fam_X5 rfl dX5_removeLocomotive_72 q_X5_removeLocomotive_100 rfl (sX5_change hw) rfl rfl rfl rfl rfl (fun m9 hw => ?_)
      refine am_aload_n dX5_removeLocomotive_75 rfl ?_
      refine am_getf dX5_removeLocomotive_76 fl_X5_7 rfl rfl ?_
      refine am_bipush dX5_removeLocomotive_79 bc_14 ?_
      refine am_iaload dX5_removeLocomotive_81 rfl hw.1 ?_
      have hw := hw.2
      exact am_ireturn dX5_removeLocomotive_82 rfl ⟨_, _, rfl, rfl, hw⟩
    · have hw := hw.2 c5
      refine am_iinc' (lf := fun y9 => [some (.ref 0), some (.int v1), some (.int v2), some (.int y9), none]) dX5_removeLocomotive_46 rfl rfl rfl ic_1 (fun _ => rfl) (fun x10 ex10 => ?_)
      have hw := hw x10 ex10
      refine am_goto 31 dX5_removeLocomotive_49 (by decide) ?_
      refine am_forget (ls' := [some (.ref 0), some (.int v1), some (.int v2), some (.int x10), none]) [true, true, true, true, false] rfl ?_
      exact ih _ _ _ _ hw
def wX5_removeLocomotive (m0 : Mu) (K : Int32 → Mu → Prop) : Prop := (vp_in (14 : Int32) 148 ∧ (((m0 0 ((14 : Int32)).toNatClampNeg) = 0 → K (-11 : Int32) m0) ∧ (¬ (m0 0 ((14 : Int32)).toNatClampNeg) = 0 → (vp_in (14 : Int32) 148 ∧ ∀ x2 : Int32, x2 = ((m0 0 ((14 : Int32)).toNatClampNeg) - (1 : Int32)) → wX5_placeOf x2 m0 (fun r3 : Int32 => (∃ n11 : Nat, lpX5_removeLocomotive_31 K n11 x2 r3 (0 : Int32) m0))))))
set_option maxRecDepth 20000 in
theorem sX5_removeLocomotive {m0 : Mu} {K : Int32 → Mu → Prop} (hw : wX5_removeLocomotive m0 K) : am_Met mX5_removeLocomotive [.ref 0] (fX5 m0) 0 0 (zI fX5 K) := by
  unfold wX5_removeLocomotive at hw
  refine am_Met.of2 (ls := [some (.ref 0), none, none, none, none]) pf_X5_removeLocomotive rfl rfl rfl rfl ?_
  refine am_aload_n dX5_removeLocomotive_0 rfl ?_
  refine am_getf dX5_removeLocomotive_1 fl_X5_7 rfl rfl ?_
  refine am_bipush dX5_removeLocomotive_4 bc_14 ?_
  refine am_iaload dX5_removeLocomotive_6 rfl hw.1 ?_
  have hw := hw.2
  refine am_if_ne 13 dX5_removeLocomotive_7 (by decide) (fun c1 => ?_) (fun c1 => ?_)
  · have hw := hw.1 c1
    refine am_bipush dX5_removeLocomotive_10 bc_m11 ?_
    exact am_ireturn dX5_removeLocomotive_12 rfl ⟨_, _, rfl, rfl, hw⟩
  · have hw := hw.2 c1
    refine am_aload_n dX5_removeLocomotive_13 rfl ?_
    refine am_getf dX5_removeLocomotive_14 fl_X5_7 rfl rfl ?_
    refine am_bipush dX5_removeLocomotive_17 bc_14 ?_
    refine am_iaload dX5_removeLocomotive_19 rfl hw.1 ?_
    have hw := hw.2
    refine am_iconst dX5_removeLocomotive_20 ic_1 ?_
    refine am_isub dX5_removeLocomotive_21 ?_
    refine am_top (fun x2 ex2 => ?_)
    have hw := hw x2 ex2
    refine am_istore_n' (ls' := [some (.ref 0), some (.int x2), none, none, none]) dX5_removeLocomotive_22 rfl rfl rfl ?_
    refine am_aload_n dX5_removeLocomotive_23 rfl ?_
    refine am_iload_n dX5_removeLocomotive_24 rfl ?_
    refine am_selfP fam_X5 rfl dX5_removeLocomotive_25 q_X5_removeLocomotive_110 rfl (sX5_placeOf hw) rfl rfl rfl rfl rfl (fun r3 hw => ?_)
    refine am_istore_n' (ls' := [some (.ref 0), some (.int x2), some (.int r3), none, none]) dX5_removeLocomotive_28 rfl rfl rfl ?_
    refine am_iconst dX5_removeLocomotive_29 ic_0 ?_
    refine am_istore_n' (ls' := [some (.ref 0), some (.int x2), some (.int r3), some (.int (0 : Int32)), none]) dX5_removeLocomotive_30 rfl rfl rfl ?_
    obtain ⟨n11, hw⟩ := hw
    refine am_forget (ls' := [some (.ref 0), some (.int x2), some (.int r3), some (.int (0 : Int32)), none]) [true, true, true, true, false] rfl ?_
    exact slpX5_removeLocomotive_31  n11 _ _ _ _ hw

def wX5_setDead (a1 a2 : Int32) (m0 : Mu) (K : Int32 → Mu → Prop) : Prop := wX5_isLocomotive a1 m0 (fun r1 : Int32 => ((r1 = 0 → K (-3 : Int32) m0) ∧ (¬ r1 = 0 → (vp_in ((23 : Int32) + a1) 148 ∧ ∀ x3 : Int32, x3 = (m0 0 (((23 : Int32) + a1)).toNatClampNeg) → ((a2 = 0 → (vp_in ((23 : Int32) + a1) 148 ∧ ∀ m5 : Mu, m5 = mu_up m0 0 (((23 : Int32) + a1)).toNatClampNeg (0 : Int32) → wX5_change m5 (fun m6 : Mu => K x3 m6))) ∧ (¬ a2 = 0 → (vp_in ((23 : Int32) + a1) 148 ∧ ∀ m7 : Mu, m7 = mu_up m0 0 (((23 : Int32) + a1)).toNatClampNeg (1 : Int32) → wX5_change m7 (fun m8 : Mu => K x3 m8))))))))
set_option maxRecDepth 20000 in
theorem sX5_setDead {a1 a2 : Int32} {m0 : Mu} {K : Int32 → Mu → Prop} (hw : wX5_setDead a1 a2 m0 K) : am_Met mX5_setDead [.ref 0, .int a1, .int a2] (fX5 m0) 0 0 (zI fX5 K) := by
  unfold wX5_setDead at hw
  refine am_Met.of2 (ls := [some (.ref 0), some (.int a1), some (.int a2), none]) pf_X5_setDead rfl rfl rfl rfl ?_
  refine am_aload_n dX5_setDead_0 rfl ?_
  refine am_iload_n dX5_setDead_1 rfl ?_
  refine am_selfP fam_X5 rfl dX5_setDead_2 q_X5_setDead_116 rfl (sX5_isLocomotive hw) rfl rfl rfl rfl rfl (fun r1 hw => ?_)
  refine am_if_ne 11 dX5_setDead_5 (by decide) (fun c2 => ?_) (fun c2 => ?_)
  · have hw := hw.1 c2
    refine am_bipush dX5_setDead_8 bc_m3 ?_
    exact am_ireturn dX5_setDead_10 rfl ⟨_, _, rfl, rfl, hw⟩
  · have hw := hw.2 c2
    refine am_aload_n dX5_setDead_11 rfl ?_
    refine am_getf dX5_setDead_12 fl_X5_7 rfl rfl ?_
    refine am_bipush dX5_setDead_15 bc_23 ?_
    refine am_iload_n dX5_setDead_17 rfl ?_
    refine am_iadd dX5_setDead_18 ?_
    refine am_iaload dX5_setDead_19 rfl hw.1 ?_
    have hw := hw.2
    refine am_top (fun x3 ex3 => ?_)
    have hw := hw x3 ex3
    refine am_istore_n' (ls' := [some (.ref 0), some (.int a1), some (.int a2), some (.int x3)]) dX5_setDead_20 rfl rfl rfl ?_
    refine am_aload_n dX5_setDead_21 rfl ?_
    refine am_getf dX5_setDead_22 fl_X5_7 rfl rfl ?_
    refine am_bipush dX5_setDead_25 bc_23 ?_
    refine am_iload_n dX5_setDead_27 rfl ?_
    refine am_iadd dX5_setDead_28 ?_
    refine am_iload_n dX5_setDead_29 rfl ?_
    refine am_if_eq 37 dX5_setDead_30 (by decide) (fun c4 => ?_) (fun c4 => ?_)
    · have hw := hw.1 c4
      refine am_iconst dX5_setDead_37 ic_0 ?_
      refine am_iastore' (F := fX5) (m := mu_up m0 0 (((23 : Int32) + a1)).toNatClampNeg (0 : Int32)) dX5_setDead_38 rfl hw.1 rfl (fun m5 em5 => ?_)
      have hw := hw.2 m5 em5
      refine am_aload_n dX5_setDead_39 rfl ?_
      refine am_selfU fam_X5 rfl dX5_setDead_40 q_X5_setDead_100 rfl (sX5_change hw) rfl rfl rfl rfl rfl (fun m6 hw => ?_)
      refine am_iload_n dX5_setDead_43 rfl ?_
      exact am_ireturn dX5_setDead_44 rfl ⟨_, _, rfl, rfl, hw⟩
    · have hw := hw.2 c4
      refine am_iconst dX5_setDead_33 ic_1 ?_
      refine am_goto 38 dX5_setDead_34 (by decide) ?_
      refine am_iastore' (F := fX5) (m := mu_up m0 0 (((23 : Int32) + a1)).toNatClampNeg (1 : Int32)) dX5_setDead_38 rfl hw.1 rfl (fun m7 em7 => ?_)
      have hw := hw.2 m7 em7
      refine am_aload_n dX5_setDead_39 rfl ?_
      refine am_selfU fam_X5 rfl dX5_setDead_40 q_X5_setDead_100 rfl (sX5_change hw) rfl rfl rfl rfl rfl (fun m8 hw => ?_)
      refine am_iload_n dX5_setDead_43 rfl ?_
      exact am_ireturn dX5_setDead_44 rfl ⟨_, _, rfl, rfl, hw⟩

def wX5_locomotives (m0 : Mu) (K : Int32 → Prop) : Prop := (vp_in (14 : Int32) 148 ∧ K (m0 0 ((14 : Int32)).toNatClampNeg))
set_option maxRecDepth 20000 in
theorem sX5_locomotives {m0 : Mu} {K : Int32 → Prop} (hw : wX5_locomotives m0 K) : am_Met mX5_locomotives [.ref 0] (fX5 m0) 0 0 (zP (fX5 m0) K) := by
  unfold wX5_locomotives at hw
  refine am_Met.of2 (ls := [some (.ref 0)]) pf_X5_locomotives rfl rfl rfl rfl ?_
  refine am_aload_n dX5_locomotives_0 rfl ?_
  refine am_getf dX5_locomotives_1 fl_X5_7 rfl rfl ?_
  refine am_bipush dX5_locomotives_4 bc_14 ?_
  refine am_iaload dX5_locomotives_6 rfl hw.1 ?_
  have hw := hw.2
  exact am_ireturn dX5_locomotives_7 rfl ⟨_, rfl, rfl, hw⟩

def wX5_trackLength (a1 : Int32) (m0 : Mu) (K : Int32 → Prop) : Prop := wX5_isPosition a1 (fun r1 : Int32 => ((r1 = 0 → K (-1 : Int32)) ∧ (¬ r1 = 0 → (vp_in ((0 : Int32) + a1) 148 ∧ K (m0 0 (((0 : Int32) + a1)).toNatClampNeg)))))
set_option maxRecDepth 20000 in
theorem sX5_trackLength {a1 : Int32} {m0 : Mu} {K : Int32 → Prop} (hw : wX5_trackLength a1 m0 K) : am_Met mX5_trackLength [.ref 0, .int a1] (fX5 m0) 0 0 (zP (fX5 m0) K) := by
  unfold wX5_trackLength at hw
  refine am_Met.of2 (ls := [some (.ref 0), some (.int a1)]) pf_X5_trackLength rfl rfl rfl rfl ?_
  refine am_iload_n dX5_trackLength_0 rfl ?_
  refine am_stS dX5_trackLength_1 q_X5_trackLength_92 (sX5_isPosition hw) rfl rfl rfl rfl (fun r1 hw => ?_)
  refine am_if_eq 18 dX5_trackLength_4 (by decide) (fun c2 => ?_) (fun c2 => ?_)
  · have hw := hw.1 c2
    refine am_iconst dX5_trackLength_18 ic_m1 ?_
    exact am_ireturn dX5_trackLength_19 rfl ⟨_, rfl, rfl, hw⟩
  · have hw := hw.2 c2
    refine am_aload_n dX5_trackLength_7 rfl ?_
    refine am_getf dX5_trackLength_8 fl_X5_7 rfl rfl ?_
    refine am_iconst dX5_trackLength_11 ic_0 ?_
    refine am_iload_n dX5_trackLength_12 rfl ?_
    refine am_iadd dX5_trackLength_13 ?_
    refine am_iaload dX5_trackLength_14 rfl hw.1 ?_
    have hw := hw.2
    refine am_goto 19 dX5_trackLength_15 (by decide) ?_
    exact am_ireturn dX5_trackLength_19 rfl ⟨_, rfl, rfl, hw⟩

def wX5_freeLength (a1 : Int32) (m0 : Mu) (K : Int32 → Prop) : Prop := wX5_in a1 (0 : Int32) (12 : Int32) (fun r1 : Int32 => ((r1 = 0 → K (-1 : Int32)) ∧ (¬ r1 = 0 → wX5_isTrack a1 m0 (fun r3 : Int32 => ((r3 = 0 → K (-2 : Int32)) ∧ (¬ r3 = 0 → (vp_in ((0 : Int32) + a1) 148 ∧ wX5_used a1 m0 (fun r5 : Int32 => K ((m0 0 (((0 : Int32) + a1)).toNatClampNeg) - r5)))))))))
set_option maxRecDepth 20000 in
theorem sX5_freeLength {a1 : Int32} {m0 : Mu} {K : Int32 → Prop} (hw : wX5_freeLength a1 m0 K) : am_Met mX5_freeLength [.ref 0, .int a1] (fX5 m0) 0 0 (zP (fX5 m0) K) := by
  unfold wX5_freeLength at hw
  refine am_Met.of2 (ls := [some (.ref 0), some (.int a1)]) pf_X5_freeLength rfl rfl rfl rfl ?_
  refine am_iload_n dX5_freeLength_0 rfl ?_
  refine am_iconst dX5_freeLength_1 ic_0 ?_
  refine am_bipush dX5_freeLength_2 bc_12 ?_
  refine am_stS dX5_freeLength_4 q_X5_freeLength_84 (sX5_in hw) rfl rfl rfl rfl (fun r1 hw => ?_)
  refine am_if_ne 12 dX5_freeLength_7 (by decide) (fun c2 => ?_) (fun c2 => ?_)
  · have hw := hw.1 c2
    refine am_iconst dX5_freeLength_10 ic_m1 ?_
    exact am_ireturn dX5_freeLength_11 rfl ⟨_, rfl, rfl, hw⟩
  · have hw := hw.2 c2
    refine am_aload_n dX5_freeLength_12 rfl ?_
    refine am_iload_n dX5_freeLength_13 rfl ?_
    refine am_selfP fam_X5 rfl dX5_freeLength_14 q_X5_freeLength_103 rfl (sX5_isTrack hw) rfl rfl rfl rfl rfl (fun r3 hw => ?_)
    refine am_if_eq 37 dX5_freeLength_17 (by decide) (fun c4 => ?_) (fun c4 => ?_)
    · have hw := hw.1 c4
      refine am_bipush dX5_freeLength_37 bc_m2 ?_
      exact am_ireturn dX5_freeLength_39 rfl ⟨_, rfl, rfl, hw⟩
    · have hw := hw.2 c4
      refine am_aload_n dX5_freeLength_20 rfl ?_
      refine am_getf dX5_freeLength_21 fl_X5_7 rfl rfl ?_
      refine am_iconst dX5_freeLength_24 ic_0 ?_
      refine am_iload_n dX5_freeLength_25 rfl ?_
      refine am_iadd dX5_freeLength_26 ?_
      refine am_iaload dX5_freeLength_27 rfl hw.1 ?_
      have hw := hw.2
      refine am_aload_n dX5_freeLength_28 rfl ?_
      refine am_iload_n dX5_freeLength_29 rfl ?_
      refine am_selfP fam_X5 rfl dX5_freeLength_30 q_X5_freeLength_96 rfl (sX5_used hw) rfl rfl rfl rfl rfl (fun r5 hw => ?_)
      refine am_isub dX5_freeLength_33 ?_
      refine am_goto 39 dX5_freeLength_34 (by decide) ?_
      exact am_ireturn dX5_freeLength_39 rfl ⟨_, rfl, rfl, hw⟩

def wX5_row (a1 a2 : Int32) (m0 : Mu) (K : Int32 → Prop) : Prop := wX5_in a1 (0 : Int32) (12 : Int32) (fun r1 : Int32 => ((r1 = 0 → K (-1 : Int32)) ∧ (¬ r1 = 0 → wX5_isTrack a1 m0 (fun r3 : Int32 => ((r3 = 0 → K (-2 : Int32)) ∧ (¬ r3 = 0 → (vp_in ((31 : Int32) + a1) 148 ∧ ∀ x5 : Int32, x5 = (m0 0 (((31 : Int32) + a1)).toNatClampNeg) → ((a2 = (-1 : Int32) → K x5) ∧ (¬ a2 = (-1 : Int32) → wX5_in a2 (0 : Int32) (x5 - (1 : Int32)) (fun r7 : Int32 => ((r7 = 0 → K (-11 : Int32)) ∧ (¬ r7 = 0 → wX5_cell a1 a2 m0 (fun r9 : Int32 => (vp_in r9 148 ∧ K (m0 0 (r9).toNatClampNeg)))))))))))))))
set_option maxRecDepth 20000 in
theorem sX5_row {a1 a2 : Int32} {m0 : Mu} {K : Int32 → Prop} (hw : wX5_row a1 a2 m0 K) : am_Met mX5_row [.ref 0, .int a1, .int a2] (fX5 m0) 0 0 (zP (fX5 m0) K) := by
  unfold wX5_row at hw
  refine am_Met.of2 (ls := [some (.ref 0), some (.int a1), some (.int a2), none]) pf_X5_row rfl rfl rfl rfl ?_
  refine am_iload_n dX5_row_0 rfl ?_
  refine am_iconst dX5_row_1 ic_0 ?_
  refine am_bipush dX5_row_2 bc_12 ?_
  refine am_stS dX5_row_4 q_X5_row_84 (sX5_in hw) rfl rfl rfl rfl (fun r1 hw => ?_)
  refine am_if_ne 12 dX5_row_7 (by decide) (fun c2 => ?_) (fun c2 => ?_)
  · have hw := hw.1 c2
    refine am_iconst dX5_row_10 ic_m1 ?_
    exact am_ireturn dX5_row_11 rfl ⟨_, rfl, rfl, hw⟩
  · have hw := hw.2 c2
    refine am_aload_n dX5_row_12 rfl ?_
    refine am_iload_n dX5_row_13 rfl ?_
    refine am_selfP fam_X5 rfl dX5_row_14 q_X5_row_103 rfl (sX5_isTrack hw) rfl rfl rfl rfl rfl (fun r3 hw => ?_)
    refine am_if_ne 23 dX5_row_17 (by decide) (fun c4 => ?_) (fun c4 => ?_)
    · have hw := hw.1 c4
      refine am_bipush dX5_row_20 bc_m2 ?_
      exact am_ireturn dX5_row_22 rfl ⟨_, rfl, rfl, hw⟩
    · have hw := hw.2 c4
      refine am_aload_n dX5_row_23 rfl ?_
      refine am_getf dX5_row_24 fl_X5_7 rfl rfl ?_
      refine am_bipush dX5_row_27 bc_31 ?_
      refine am_iload_n dX5_row_29 rfl ?_
      refine am_iadd dX5_row_30 ?_
      refine am_iaload dX5_row_31 rfl hw.1 ?_
      have hw := hw.2
      refine am_top (fun x5 ex5 => ?_)
      have hw := hw x5 ex5
      refine am_istore_n' (ls' := [some (.ref 0), some (.int a1), some (.int a2), some (.int x5)]) dX5_row_32 rfl rfl rfl ?_
      refine am_iload_n dX5_row_33 rfl ?_
      refine am_iconst dX5_row_34 ic_m1 ?_
      refine am_icmp_ne 42 dX5_row_35 (by decide) (fun c6 => ?_) (fun c6 => ?_)
      · have hw := hw.1 c6
        refine am_iload_n dX5_row_38 rfl ?_
        refine am_goto 69 dX5_row_39 (by decide) ?_
        exact am_ireturn dX5_row_69 rfl ⟨_, rfl, rfl, hw⟩
      · have hw := hw.2 c6
        refine am_iload_n dX5_row_42 rfl ?_
        refine am_iconst dX5_row_43 ic_0 ?_
        refine am_iload_n dX5_row_44 rfl ?_
        refine am_iconst dX5_row_45 ic_1 ?_
        refine am_isub dX5_row_46 ?_
        refine am_stS dX5_row_47 q_X5_row_84 (sX5_in hw) rfl rfl rfl rfl (fun r7 hw => ?_)
        refine am_if_eq 67 dX5_row_50 (by decide) (fun c8 => ?_) (fun c8 => ?_)
        · have hw := hw.1 c8
          refine am_bipush dX5_row_67 bc_m11 ?_
          exact am_ireturn dX5_row_69 rfl ⟨_, rfl, rfl, hw⟩
        · have hw := hw.2 c8
          refine am_aload_n dX5_row_53 rfl ?_
          refine am_getf dX5_row_54 fl_X5_7 rfl rfl ?_
          refine am_aload_n dX5_row_57 rfl ?_
          refine am_iload_n dX5_row_58 rfl ?_
          refine am_iload_n dX5_row_59 rfl ?_
          refine am_selfP fam_X5 rfl dX5_row_60 q_X5_row_88 rfl (sX5_cell hw) rfl rfl rfl rfl rfl (fun r9 hw => ?_)
          refine am_iaload dX5_row_63 rfl hw.1 ?_
          have hw := hw.2
          refine am_goto 69 dX5_row_64 (by decide) ?_
          exact am_ireturn dX5_row_69 rfl ⟨_, rfl, rfl, hw⟩

def wX5_place (a1 : Int32) (m0 : Mu) (K : Int32 → Prop) : Prop := wX5_isLocomotive a1 m0 (fun r1 : Int32 => ((r1 = 0 → K (-3 : Int32)) ∧ (¬ r1 = 0 → wX5_placeOf a1 m0 (fun r3 : Int32 => K r3))))
set_option maxRecDepth 20000 in
theorem sX5_place {a1 : Int32} {m0 : Mu} {K : Int32 → Prop} (hw : wX5_place a1 m0 K) : am_Met mX5_place [.ref 0, .int a1] (fX5 m0) 0 0 (zP (fX5 m0) K) := by
  unfold wX5_place at hw
  refine am_Met.of2 (ls := [some (.ref 0), some (.int a1)]) pf_X5_place rfl rfl rfl rfl ?_
  refine am_aload_n dX5_place_0 rfl ?_
  refine am_iload_n dX5_place_1 rfl ?_
  refine am_selfP fam_X5 rfl dX5_place_2 q_X5_place_116 rfl (sX5_isLocomotive hw) rfl rfl rfl rfl rfl (fun r1 hw => ?_)
  refine am_if_eq 16 dX5_place_5 (by decide) (fun c2 => ?_) (fun c2 => ?_)
  · have hw := hw.1 c2
    refine am_bipush dX5_place_16 bc_m3 ?_
    exact am_ireturn dX5_place_18 rfl ⟨_, rfl, rfl, hw⟩
  · have hw := hw.2 c2
    refine am_aload_n dX5_place_8 rfl ?_
    refine am_iload_n dX5_place_9 rfl ?_
    refine am_selfP fam_X5 rfl dX5_place_10 q_X5_place_110 rfl (sX5_placeOf hw) rfl rfl rfl rfl rfl (fun r3 hw => ?_)
    refine am_goto 18 dX5_place_13 (by decide) ?_
    exact am_ireturn dX5_place_18 rfl ⟨_, rfl, rfl, hw⟩

def wX5_isEnd (a1 : Int32) (K : Int32 → Prop) : Prop := wX5_in a1 (0 : Int32) (1 : Int32) (fun r1 : Int32 => (narrow .boolean (.int r1) = .int r1 ∧ K r1))
set_option maxRecDepth 20000 in
theorem sX5_isEnd {a1 : Int32} {K : Int32 → Prop} (hw : wX5_isEnd a1 K) : am_Met mX5_isEnd [.int a1] [] 0 0 (zP [] K) := by
  unfold wX5_isEnd at hw
  refine am_Met.of2 (ls := [some (.int a1)]) pf_X5_isEnd rfl rfl rfl rfl ?_
  refine am_iload_n dX5_isEnd_0 rfl ?_
  refine am_iconst dX5_isEnd_1 ic_0 ?_
  refine am_iconst dX5_isEnd_2 ic_1 ?_
  refine am_stS dX5_isEnd_3 q_X5_isEnd_84 (sX5_in hw) rfl rfl rfl rfl (fun r1 hw => ?_)
  exact am_zreturn dX5_isEnd_6 rfl hw.1 ⟨_, rfl, rfl, hw.2⟩

def wX5_pointed (a1 : Int32) (m0 : Mu) (K : Int32 → Prop) : Prop := (vp_in (13 : Int32) 148 ∧ K (am_rem ((m0 0 ((13 : Int32)).toNatClampNeg) + ((6 : Int32) * a1)) (12 : Int32)))
set_option maxRecDepth 20000 in
theorem sX5_pointed {a1 : Int32} {m0 : Mu} {K : Int32 → Prop} (hw : wX5_pointed a1 m0 K) : am_Met mX5_pointed [.ref 0, .int a1] (fX5 m0) 0 0 (zP (fX5 m0) K) := by
  unfold wX5_pointed at hw
  refine am_Met.of2 (ls := [some (.ref 0), some (.int a1)]) pf_X5_pointed rfl rfl rfl rfl ?_
  refine am_aload_n dX5_pointed_0 rfl ?_
  refine am_getf dX5_pointed_1 fl_X5_7 rfl rfl ?_
  refine am_bipush dX5_pointed_4 bc_13 ?_
  refine am_iaload dX5_pointed_6 rfl hw.1 ?_
  have hw := hw.2
  refine am_bipush dX5_pointed_7 bc_6 ?_
  refine am_iload_n dX5_pointed_9 rfl ?_
  refine am_imul dX5_pointed_10 ?_
  refine am_iadd dX5_pointed_11 ?_
  refine am_bipush dX5_pointed_12 bc_12 ?_
  refine am_irem' dX5_pointed_14 nz_12 ?_
  exact am_ireturn dX5_pointed_15 rfl ⟨_, rfl, rfl, hw⟩

def wX5_pointsTo (a1 : Int32) (m0 : Mu) (K : Int32 → Prop) : Prop := wX5_isEnd a1 (fun r1 : Int32 => ((r1 = 0 → K (-4 : Int32)) ∧ (¬ r1 = 0 → wX5_pointed a1 m0 (fun r3 : Int32 => K r3))))
set_option maxRecDepth 20000 in
theorem sX5_pointsTo {a1 : Int32} {m0 : Mu} {K : Int32 → Prop} (hw : wX5_pointsTo a1 m0 K) : am_Met mX5_pointsTo [.ref 0, .int a1] (fX5 m0) 0 0 (zP (fX5 m0) K) := by
  unfold wX5_pointsTo at hw
  refine am_Met.of2 (ls := [some (.ref 0), some (.int a1)]) pf_X5_pointsTo rfl rfl rfl rfl ?_
  refine am_iload_n dX5_pointsTo_0 rfl ?_
  refine am_stS dX5_pointsTo_1 q_X5_pointsTo_119 (sX5_isEnd hw) rfl rfl rfl rfl (fun r1 hw => ?_)
  refine am_if_eq 15 dX5_pointsTo_4 (by decide) (fun c2 => ?_) (fun c2 => ?_)
  · have hw := hw.1 c2
    refine am_bipush dX5_pointsTo_15 bc_m4 ?_
    exact am_ireturn dX5_pointsTo_17 rfl ⟨_, rfl, rfl, hw⟩
  · have hw := hw.2 c2
    refine am_aload_n dX5_pointsTo_7 rfl ?_
    refine am_iload_n dX5_pointsTo_8 rfl ?_
    refine am_selfP fam_X5 rfl dX5_pointsTo_9 q_X5_pointsTo_122 rfl (sX5_pointed hw) rfl rfl rfl rfl rfl (fun r3 hw => ?_)
    refine am_goto 17 dX5_pointsTo_12 (by decide) ?_
    exact am_ireturn dX5_pointsTo_17 rfl ⟨_, rfl, rfl, hw⟩

def jnX5_write_47 (K : Mu → Prop) (v1 : Int32) (m0 : Mu) : Prop := (vp_in (m0 32 4) 40 ∧ ∀ m4 : Mu, m4 = mu_up m0 5 ((m0 32 4)).toNatClampNeg v1 → ∀ m5 : Mu, m5 = mu_up m4 32 4 ((m4 32 4) + (1 : Int32)) → K m5)
set_option maxRecDepth 20000 in
theorem sjnX5_write_47 {m0 : Mu} {K : Mu → Prop} {v1 : Int32} (hw : jnX5_write_47 K v1 m0) : am_Ok mX5_write none (zV fX5 K) 0 0 47 [some (.ref 0), some (.int v1), none] [] (fX5 m0) := by
  unfold jnX5_write_47 at hw
  refine am_aload_n dX5_write_47 rfl ?_
  refine am_getf dX5_write_48 fl_X5_20 rfl rfl ?_
  refine am_aload_n dX5_write_51 rfl ?_
  refine am_getf dX5_write_52 fl_X5_81 rfl rfl ?_
  refine am_iload_n dX5_write_55 rfl ?_
  refine am_iastore' (F := fX5) (m := mu_up m0 5 ((m0 32 4)).toNatClampNeg v1) dX5_write_56 rfl hw.1 rfl (fun m4 em4 => ?_)
  have hw := hw.2 m4 em4
  refine am_aload_n dX5_write_57 rfl ?_
  refine am_dup dX5_write_58 rfl ?_
  refine am_getf dX5_write_59 fl_X5_81 rfl rfl ?_
  refine am_iconst dX5_write_62 ic_1 ?_
  refine am_iadd dX5_write_63 ?_
  refine am_putf' (F := fX5) (m := mu_up m4 32 4 ((m4 32 4) + (1 : Int32))) dX5_write_64 fp_X5_81 rfl rfl rfl (fun m5 em5 => ?_)
  have hw := hw m5 em5
  exact am_vreturn dX5_write_67 rfl ⟨_, rfl, rfl, hw⟩
def lpX5_write_11 (K : Mu → Prop)  : Nat → Int32 → Int32 → Mu → Prop
  | 0, _, _, _ => False
  | n + 1, v1, v2, m0 => (((40 : Int32) ≤ v2 → ∀ m3 : Mu, m3 = mu_up m0 32 4 ((m0 32 4) - (1 : Int32)) → jnX5_write_47 K v1 m3) ∧ (¬ (40 : Int32) ≤ v2 → (vp_in v2 40 ∧ (vp_in (v2 - (1 : Int32)) 40 ∧ ∀ m6 : Mu, m6 = mu_up m0 5 ((v2 - (1 : Int32))).toNatClampNeg (m0 5 (v2).toNatClampNeg) → ∀ x7 : Int32, x7 = v2 + (1 : Int32) → lpX5_write_11 K n v1 x7 m6))))
set_option maxRecDepth 20000 in
theorem slpX5_write_11 {K : Mu → Prop} : ∀ (n : Nat) (v1 v2 : Int32) (m0 : Mu), lpX5_write_11 K n v1 v2 m0 → am_Ok mX5_write none (zV fX5 K) 0 0 11 [some (.ref 0), some (.int v1), some (.int v2)] [] (fX5 m0) := by
  intro n
  induction n with
  | zero => intro v1 v2 m0 hw; exact False.elim hw
  | succ n ih =>
    intro v1 v2 m0 hw
    unfold lpX5_write_11 at hw
    refine am_iload_n dX5_write_11 rfl ?_
    refine am_bipush dX5_write_12 bc_40 ?_
    refine am_icmp_ge 37 dX5_write_14 (by decide) (fun c2 => ?_) (fun c2 => ?_)
    · have hw := hw.1 c2
      refine am_aload_n dX5_write_37 rfl ?_
      refine am_dup dX5_write_38 rfl ?_
      refine am_getf dX5_write_39 fl_X5_81 rfl rfl ?_
      refine am_iconst dX5_write_42 ic_1 ?_
      refine am_isub dX5_write_43 ?_
      refine am_putf' (F := fX5) (m := mu_up m0 32 4 ((m0 32 4) - (1 : Int32))) dX5_write_44 fp_X5_81 rfl rfl rfl (fun m3 em3 => ?_)
      have hw := hw m3 em3
      refine am_forget (ls' := [some (.ref 0), some (.int v1), none]) [true, true, false] rfl ?_
      exact sjnX5_write_47  hw
    · have hw := hw.2 c2
      refine am_aload_n dX5_write_17 rfl ?_
      refine am_getf dX5_write_18 fl_X5_20 rfl rfl ?_
      refine am_iload_n dX5_write_21 rfl ?_
      refine am_iconst dX5_write_22 ic_1 ?_
      refine am_isub dX5_write_23 ?_
      refine am_aload_n dX5_write_24 rfl ?_
      refine am_getf dX5_write_25 fl_X5_20 rfl rfl ?_
      refine am_iload_n dX5_write_28 rfl ?_
      refine am_iaload dX5_write_29 rfl hw.1 ?_
      have hw := hw.2
      refine am_iastore' (F := fX5) (m := mu_up m0 5 ((v2 - (1 : Int32))).toNatClampNeg (m0 5 (v2).toNatClampNeg)) dX5_write_30 rfl hw.1 rfl (fun m6 em6 => ?_)
      have hw := hw.2 m6 em6
      refine am_iinc' (lf := fun y9 => [some (.ref 0), some (.int v1), some (.int y9)]) dX5_write_31 rfl rfl rfl ic_1 (fun _ => rfl) (fun x7 ex7 => ?_)
      have hw := hw x7 ex7
      refine am_goto 11 dX5_write_34 (by decide) ?_
      refine am_forget (ls' := [some (.ref 0), some (.int v1), some (.int x7)]) [true, true, true] rfl ?_
      exact ih _ _ _ hw
def wX5_write (a1 : Int32) (m0 : Mu) (K : Mu → Prop) : Prop := (((m0 32 4) = (40 : Int32) → (∃ n8 : Nat, lpX5_write_11 K n8 a1 (1 : Int32) m0)) ∧ (¬ (m0 32 4) = (40 : Int32) → jnX5_write_47 K a1 m0))
set_option maxRecDepth 20000 in
theorem sX5_write {a1 : Int32} {m0 : Mu} {K : Mu → Prop} (hw : wX5_write a1 m0 K) : am_Met mX5_write [.ref 0, .int a1] (fX5 m0) 0 0 (zV fX5 K) := by
  unfold wX5_write at hw
  refine am_Met.of2 (ls := [some (.ref 0), some (.int a1), none]) pf_X5_write rfl rfl rfl rfl ?_
  refine am_aload_n dX5_write_0 rfl ?_
  refine am_getf dX5_write_1 fl_X5_81 rfl rfl ?_
  refine am_bipush dX5_write_4 bc_40 ?_
  refine am_icmp_ne 47 dX5_write_6 (by decide) (fun c1 => ?_) (fun c1 => ?_)
  · have hw := hw.1 c1
    refine am_iconst dX5_write_9 ic_1 ?_
    refine am_istore_n' (ls' := [some (.ref 0), some (.int a1), some (.int (1 : Int32))]) dX5_write_10 rfl rfl rfl ?_
    obtain ⟨n8, hw⟩ := hw
    refine am_forget (ls' := [some (.ref 0), some (.int a1), some (.int (1 : Int32))]) [true, true, true] rfl ?_
    exact slpX5_write_11  n8 _ _ _ hw
  · have hw := hw.2 c1
    refine am_forget (ls' := [some (.ref 0), some (.int a1), none]) [true, true, false] rfl ?_
    exact sjnX5_write_47  hw

def wX5_turnBy (a1 : Int32) (m0 : Mu) (K : Mu → Prop) : Prop := (vp_in (13 : Int32) 148 ∧ (vp_in (13 : Int32) 148 ∧ ∀ m1 : Mu, m1 = mu_up m0 0 ((13 : Int32)).toNatClampNeg (am_rem (((m0 0 ((13 : Int32)).toNatClampNeg) + a1) + (12 : Int32)) (12 : Int32)) → K m1))
set_option maxRecDepth 20000 in
theorem sX5_turnBy {a1 : Int32} {m0 : Mu} {K : Mu → Prop} (hw : wX5_turnBy a1 m0 K) : am_Met mX5_turnBy [.ref 0, .int a1] (fX5 m0) 0 0 (zV fX5 K) := by
  unfold wX5_turnBy at hw
  refine am_Met.of2 (ls := [some (.ref 0), some (.int a1)]) pf_X5_turnBy rfl rfl rfl rfl ?_
  refine am_aload_n dX5_turnBy_0 rfl ?_
  refine am_getf dX5_turnBy_1 fl_X5_7 rfl rfl ?_
  refine am_bipush dX5_turnBy_4 bc_13 ?_
  refine am_aload_n dX5_turnBy_6 rfl ?_
  refine am_getf dX5_turnBy_7 fl_X5_7 rfl rfl ?_
  refine am_bipush dX5_turnBy_10 bc_13 ?_
  refine am_iaload dX5_turnBy_12 rfl hw.1 ?_
  have hw := hw.2
  refine am_iload_n dX5_turnBy_13 rfl ?_
  refine am_iadd dX5_turnBy_14 ?_
  refine am_bipush dX5_turnBy_15 bc_12 ?_
  refine am_iadd dX5_turnBy_17 ?_
  refine am_bipush dX5_turnBy_18 bc_12 ?_
  refine am_irem' dX5_turnBy_20 nz_12 ?_
  refine am_iastore' (F := fX5) (m := mu_up m0 0 ((13 : Int32)).toNatClampNeg (am_rem (((m0 0 ((13 : Int32)).toNatClampNeg) + a1) + (12 : Int32)) (12 : Int32))) dX5_turnBy_21 rfl hw.1 rfl (fun m1 em1 => ?_)
  have hw := hw.2 m1 em1
  exact am_vreturn dX5_turnBy_22 rfl ⟨_, rfl, rfl, hw⟩

def jnX5_turn_46 (K : Int32 → Mu → Prop) (X0 : Int32 → Int32 → Int32 → Mu → Prop) (v1 v2 v3 u0 : Int32) (m0 : Mu) : Prop := wX5_turnBy u0 m0 (fun m7 : Mu => ((0 ≤ v1 → wX5_write (0 : Int32) m7 (fun m9 : Mu => ∀ m10 : Mu, m10 = mu_up m9 32 3 ((m9 32 3) + (1 : Int32)) → ∀ x11 : Int32, x11 = v3 + (1 : Int32) → X0 v1 v2 x11 m10)) ∧ (¬ 0 ≤ v1 → wX5_write (1 : Int32) m7 (fun m12 : Mu => ∀ m13 : Mu, m13 = mu_up m12 32 3 ((m12 32 3) + (1 : Int32)) → ∀ x14 : Int32, x14 = v3 + (1 : Int32) → X0 v1 v2 x14 m13))))
set_option maxRecDepth 20000 in
theorem sjnX5_turn_46 {m0 : Mu} {K : Int32 → Mu → Prop} {X0 : Int32 → Int32 → Int32 → Mu → Prop} (hX0 : ∀ (a0 a1 a2 : Int32) (mm : Mu), X0 a0 a1 a2 mm → am_Ok mX5_turn none (zI fX5 K) 0 0 31 [some (.ref 0), some (.int a0), some (.int a1), some (.int a2)] [] (fX5 mm)) {v1 v2 v3 u0 : Int32} (hw : jnX5_turn_46 K X0 v1 v2 v3 u0 m0) : am_Ok mX5_turn none (zI fX5 K) 0 0 46 [some (.ref 0), some (.int v1), some (.int v2), some (.int v3)] [.int u0, .ref 0] (fX5 m0) := by
  unfold jnX5_turn_46 at hw
  refine am_selfU fam_X5 rfl dX5_turn_46 q_X5_turn_125 rfl (sX5_turnBy hw) rfl rfl rfl rfl rfl (fun m7 hw => ?_)
  refine am_aload_n dX5_turn_49 rfl ?_
  refine am_iload_n dX5_turn_50 rfl ?_
  refine am_if_ge 58 dX5_turn_51 (by decide) (fun c8 => ?_) (fun c8 => ?_)
  · have hw := hw.1 c8
    refine am_iconst dX5_turn_58 ic_0 ?_
    refine am_selfU fam_X5 rfl dX5_turn_59 q_X5_turn_129 rfl (sX5_write hw) rfl rfl rfl rfl rfl (fun m9 hw => ?_)
    refine am_aload_n dX5_turn_62 rfl ?_
    refine am_dup dX5_turn_63 rfl ?_
    refine am_getf dX5_turn_64 fl_X5_132 rfl rfl ?_
    refine am_iconst dX5_turn_67 ic_1 ?_
    refine am_iadd dX5_turn_68 ?_
    refine am_putf' (F := fX5) (m := mu_up m9 32 3 ((m9 32 3) + (1 : Int32))) dX5_turn_69 fp_X5_132 rfl rfl rfl (fun m10 em10 => ?_)
    have hw := hw m10 em10
    refine am_iinc' (lf := fun y9 => [some (.ref 0), some (.int v1), some (.int v2), some (.int y9)]) dX5_turn_72 rfl rfl rfl ic_1 (fun _ => rfl) (fun x11 ex11 => ?_)
    have hw := hw x11 ex11
    refine am_goto 31 dX5_turn_75 (by decide) ?_
    refine am_forget (ls' := [some (.ref 0), some (.int v1), some (.int v2), some (.int x11)]) [true, true, true, true] rfl ?_
    exact hX0 _ _ _ _ hw
  · have hw := hw.2 c8
    refine am_iconst dX5_turn_54 ic_1 ?_
    refine am_goto 59 dX5_turn_55 (by decide) ?_
    refine am_selfU fam_X5 rfl dX5_turn_59 q_X5_turn_129 rfl (sX5_write hw) rfl rfl rfl rfl rfl (fun m12 hw => ?_)
    refine am_aload_n dX5_turn_62 rfl ?_
    refine am_dup dX5_turn_63 rfl ?_
    refine am_getf dX5_turn_64 fl_X5_132 rfl rfl ?_
    refine am_iconst dX5_turn_67 ic_1 ?_
    refine am_iadd dX5_turn_68 ?_
    refine am_putf' (F := fX5) (m := mu_up m12 32 3 ((m12 32 3) + (1 : Int32))) dX5_turn_69 fp_X5_132 rfl rfl rfl (fun m13 em13 => ?_)
    have hw := hw m13 em13
    refine am_iinc' (lf := fun y9 => [some (.ref 0), some (.int v1), some (.int v2), some (.int y9)]) dX5_turn_72 rfl rfl rfl ic_1 (fun _ => rfl) (fun x14 ex14 => ?_)
    have hw := hw x14 ex14
    refine am_goto 31 dX5_turn_75 (by decide) ?_
    refine am_forget (ls' := [some (.ref 0), some (.int v1), some (.int v2), some (.int x14)]) [true, true, true, true] rfl ?_
    exact hX0 _ _ _ _ hw
def lpX5_turn_31 (K : Int32 → Mu → Prop)  : Nat → Int32 → Int32 → Int32 → Mu → Prop
  | 0, _, _, _, _ => False
  | n + 1, v1, v2, v3, m0 => ((v2 ≤ v3 → (vp_in (13 : Int32) 148 ∧ K (m0 0 ((13 : Int32)).toNatClampNeg) m0)) ∧ (¬ v2 ≤ v3 → ((0 ≤ v1 → jnX5_turn_46 K (fun a0 a1 a2 mm => lpX5_turn_31 K n a0 a1 a2 mm) v1 v2 v3 (1 : Int32) m0) ∧ (¬ 0 ≤ v1 → jnX5_turn_46 K (fun a0 a1 a2 mm => lpX5_turn_31 K n a0 a1 a2 mm) v1 v2 v3 (-1 : Int32) m0))))
set_option maxRecDepth 20000 in
theorem slpX5_turn_31 {K : Int32 → Mu → Prop} : ∀ (n : Nat) (v1 v2 v3 : Int32) (m0 : Mu), lpX5_turn_31 K n v1 v2 v3 m0 → am_Ok mX5_turn none (zI fX5 K) 0 0 31 [some (.ref 0), some (.int v1), some (.int v2), some (.int v3)] [] (fX5 m0) := by
  intro n
  induction n with
  | zero => intro v1 v2 v3 m0 hw; exact False.elim hw
  | succ n ih =>
    intro v1 v2 v3 m0 hw
    unfold lpX5_turn_31 at hw
    refine am_iload_n dX5_turn_31 rfl ?_
    refine am_iload_n dX5_turn_32 rfl ?_
    refine am_icmp_ge 78 dX5_turn_33 (by decide) (fun c5 => ?_) (fun c5 => ?_)
    · have hw := hw.1 c5
      refine am_aload_n dX5_turn_78 rfl ?_
      refine am_getf dX5_turn_79 fl_X5_7 rfl rfl ?_
      refine am_bipush dX5_turn_82 bc_13 ?_
      refine am_iaload dX5_turn_84 rfl hw.1 ?_
      have hw := hw.2
      exact am_ireturn dX5_turn_85 rfl ⟨_, _, rfl, rfl, hw⟩
    · have hw := hw.2 c5
      refine am_aload_n dX5_turn_36 rfl ?_
      refine am_iload_n dX5_turn_37 rfl ?_
      refine am_if_ge 45 dX5_turn_38 (by decide) (fun c6 => ?_) (fun c6 => ?_)
      · have hw := hw.1 c6
        refine am_iconst dX5_turn_45 ic_1 ?_
        refine am_forget (ls' := [some (.ref 0), some (.int v1), some (.int v2), some (.int v3)]) [true, true, true, true] rfl ?_
        exact sjnX5_turn_46 (fun a0 a1 a2 mm hq => ih a0 a1 a2 mm hq) hw
      · have hw := hw.2 c6
        refine am_iconst dX5_turn_41 ic_m1 ?_
        refine am_goto 46 dX5_turn_42 (by decide) ?_
        refine am_forget (ls' := [some (.ref 0), some (.int v1), some (.int v2), some (.int v3)]) [true, true, true, true] rfl ?_
        exact sjnX5_turn_46 (fun a0 a1 a2 mm hq => ih a0 a1 a2 mm hq) hw
def wX5_turn (a1 : Int32) (m0 : Mu) (K : Int32 → Mu → Prop) : Prop := wX5_in a1 (-11 : Int32) (11 : Int32) (fun r1 : Int32 => ((r1 = 0 → K (-4 : Int32) m0) ∧ (¬ r1 = 0 → ((a1 = 0 → K (-4 : Int32) m0) ∧ (¬ a1 = 0 → ((0 ≤ a1 → (∃ n15 : Nat, lpX5_turn_31 K n15 a1 a1 (0 : Int32) m0)) ∧ (¬ 0 ≤ a1 → ∀ x16 : Int32, x16 = (-a1) → (∃ n17 : Nat, lpX5_turn_31 K n17 a1 x16 (0 : Int32) m0))))))))
set_option maxRecDepth 20000 in
theorem sX5_turn {a1 : Int32} {m0 : Mu} {K : Int32 → Mu → Prop} (hw : wX5_turn a1 m0 K) : am_Met mX5_turn [.ref 0, .int a1] (fX5 m0) 0 0 (zI fX5 K) := by
  unfold wX5_turn at hw
  refine am_Met.of2 (ls := [some (.ref 0), some (.int a1), none, none]) pf_X5_turn rfl rfl rfl rfl ?_
  refine am_iload_n dX5_turn_0 rfl ?_
  refine am_bipush dX5_turn_1 bc_m11 ?_
  refine am_bipush dX5_turn_3 bc_11 ?_
  refine am_stS dX5_turn_5 q_X5_turn_84 (sX5_in hw) rfl rfl rfl rfl (fun r1 hw => ?_)
  refine am_if_eq 15 dX5_turn_8 (by decide) (fun c2 => ?_) (fun c2 => ?_)
  · have hw := hw.1 c2
    refine am_bipush dX5_turn_15 bc_m4 ?_
    exact am_ireturn dX5_turn_17 rfl ⟨_, _, rfl, rfl, hw⟩
  · have hw := hw.2 c2
    refine am_iload_n dX5_turn_11 rfl ?_
    refine am_if_ne 18 dX5_turn_12 (by decide) (fun c3 => ?_) (fun c3 => ?_)
    · have hw := hw.1 c3
      refine am_bipush dX5_turn_15 bc_m4 ?_
      exact am_ireturn dX5_turn_17 rfl ⟨_, _, rfl, rfl, hw⟩
    · have hw := hw.2 c3
      refine am_iload_n dX5_turn_18 rfl ?_
      refine am_if_ge 27 dX5_turn_19 (by decide) (fun c4 => ?_) (fun c4 => ?_)
      · have hw := hw.1 c4
        refine am_iload_n dX5_turn_27 rfl ?_
        refine am_istore_n' (ls' := [some (.ref 0), some (.int a1), some (.int a1), none]) dX5_turn_28 rfl rfl rfl ?_
        refine am_iconst dX5_turn_29 ic_0 ?_
        refine am_istore_n' (ls' := [some (.ref 0), some (.int a1), some (.int a1), some (.int (0 : Int32))]) dX5_turn_30 rfl rfl rfl ?_
        obtain ⟨n15, hw⟩ := hw
        refine am_forget (ls' := [some (.ref 0), some (.int a1), some (.int a1), some (.int (0 : Int32))]) [true, true, true, true] rfl ?_
        exact slpX5_turn_31  n15 _ _ _ _ hw
      · have hw := hw.2 c4
        refine am_iload_n dX5_turn_22 rfl ?_
        refine am_ineg dX5_turn_23 ?_
        refine am_goto 28 dX5_turn_24 (by decide) ?_
        refine am_top (fun x16 ex16 => ?_)
        have hw := hw x16 ex16
        refine am_istore_n' (ls' := [some (.ref 0), some (.int a1), some (.int x16), none]) dX5_turn_28 rfl rfl rfl ?_
        refine am_iconst dX5_turn_29 ic_0 ?_
        refine am_istore_n' (ls' := [some (.ref 0), some (.int a1), some (.int x16), some (.int (0 : Int32))]) dX5_turn_30 rfl rfl rfl ?_
        obtain ⟨n17, hw⟩ := hw
        refine am_forget (ls' := [some (.ref 0), some (.int a1), some (.int x16), some (.int (0 : Int32))]) [true, true, true, true] rfl ?_
        exact slpX5_turn_31  n17 _ _ _ _ hw

def lpX5_goIn_9 (K : Mu → Prop)  : Nat → Int32 → Int32 → Int32 → Int32 → Mu → Prop
  | 0, _, _, _, _, _ => False
  | n + 1, v1, v2, v3, v4, m0 => ((v2 ≤ v4 → K m0) ∧ (¬ v2 ≤ v4 → wX5_take v3 (0 : Int32) m0 (fun (r3 : Int32) (m4 : Mu) => ((v1 = 0 → wX5_insert (12 : Int32) (0 : Int32) r3 m4 (fun m6 : Mu => ∀ x7 : Int32, x7 = v4 + (1 : Int32) → lpX5_goIn_9 K n v1 v2 v3 x7 m6)) ∧ (¬ v1 = 0 → (vp_in (43 : Int32) 148 ∧ wX5_insert (12 : Int32) (m4 0 ((43 : Int32)).toNatClampNeg) r3 m4 (fun m8 : Mu => ∀ x9 : Int32, x9 = v4 + (1 : Int32) → lpX5_goIn_9 K n v1 v2 v3 x9 m8)))))))
set_option maxRecDepth 20000 in
theorem slpX5_goIn_9 {K : Mu → Prop} : ∀ (n : Nat) (v1 v2 v3 v4 : Int32) (m0 : Mu), lpX5_goIn_9 K n v1 v2 v3 v4 m0 → am_Ok mX5_goIn none (zV fX5 K) 0 0 9 [some (.ref 0), some (.int v1), some (.int v2), some (.int v3), some (.int v4), none] [] (fX5 m0) := by
  intro n
  induction n with
  | zero => intro v1 v2 v3 v4 m0 hw; exact False.elim hw
  | succ n ih =>
    intro v1 v2 v3 v4 m0 hw
    unfold lpX5_goIn_9 at hw
    refine am_iload dX5_goIn_9 rfl ?_
    refine am_iload_n dX5_goIn_11 rfl ?_
    refine am_icmp_ge 52 dX5_goIn_12 (by decide) (fun c2 => ?_) (fun c2 => ?_)
    · have hw := hw.1 c2
      exact am_vreturn dX5_goIn_52 rfl ⟨_, rfl, rfl, hw⟩
    · have hw := hw.2 c2
      refine am_aload_n dX5_goIn_15 rfl ?_
      refine am_iload_n dX5_goIn_16 rfl ?_
      refine am_iconst dX5_goIn_17 ic_0 ?_
      refine am_selfI fam_X5 rfl dX5_goIn_18 q_X5_goIn_113 rfl (sX5_take hw) rfl rfl rfl rfl rfl (fun r3 m4 hw => ?_)
      refine am_istore' (ls' := [some (.ref 0), some (.int v1), some (.int v2), some (.int v3), some (.int v4), some (.int r3)]) dX5_goIn_21 rfl rfl rfl ?_
      refine am_aload_n dX5_goIn_23 rfl ?_
      refine am_bipush dX5_goIn_24 bc_12 ?_
      refine am_iload_n dX5_goIn_26 rfl ?_
      refine am_if_ne 34 dX5_goIn_27 (by decide) (fun c5 => ?_) (fun c5 => ?_)
      · have hw := hw.1 c5
        refine am_iconst dX5_goIn_30 ic_0 ?_
        refine am_goto 41 dX5_goIn_31 (by decide) ?_
        refine am_iload dX5_goIn_41 rfl ?_
        refine am_selfU fam_X5 rfl dX5_goIn_43 q_X5_goIn_106 rfl (sX5_insert hw) rfl rfl rfl rfl rfl (fun m6 hw => ?_)
        refine am_iinc' (lf := fun y9 => [some (.ref 0), some (.int v1), some (.int v2), some (.int v3), some (.int y9), some (.int r3)]) dX5_goIn_46 rfl rfl rfl ic_1 (fun _ => rfl) (fun x7 ex7 => ?_)
        have hw := hw x7 ex7
        refine am_goto 9 dX5_goIn_49 (by decide) ?_
        refine am_forget (ls' := [some (.ref 0), some (.int v1), some (.int v2), some (.int v3), some (.int x7), none]) [true, true, true, true, true, false] rfl ?_
        exact ih _ _ _ _ _ hw
      · have hw := hw.2 c5
        refine am_aload_n dX5_goIn_34 rfl ?_
        refine am_getf dX5_goIn_35 fl_X5_7 rfl rfl ?_
        refine am_bipush dX5_goIn_38 bc_43 ?_
        refine am_iaload dX5_goIn_40 rfl hw.1 ?_
        have hw := hw.2
        refine am_iload dX5_goIn_41 rfl ?_
        refine am_selfU fam_X5 rfl dX5_goIn_43 q_X5_goIn_106 rfl (sX5_insert hw) rfl rfl rfl rfl rfl (fun m8 hw => ?_)
        refine am_iinc' (lf := fun y9 => [some (.ref 0), some (.int v1), some (.int v2), some (.int v3), some (.int y9), some (.int r3)]) dX5_goIn_46 rfl rfl rfl ic_1 (fun _ => rfl) (fun x9 ex9 => ?_)
        have hw := hw x9 ex9
        refine am_goto 9 dX5_goIn_49 (by decide) ?_
        refine am_forget (ls' := [some (.ref 0), some (.int v1), some (.int v2), some (.int v3), some (.int x9), none]) [true, true, true, true, true, false] rfl ?_
        exact ih _ _ _ _ _ hw
def wX5_goIn (a1 a2 : Int32) (m0 : Mu) (K : Mu → Prop) : Prop := wX5_pointed a1 m0 (fun r1 : Int32 => (∃ n10 : Nat, lpX5_goIn_9 K n10 a1 a2 r1 (0 : Int32) m0))
set_option maxRecDepth 20000 in
theorem sX5_goIn {a1 a2 : Int32} {m0 : Mu} {K : Mu → Prop} (hw : wX5_goIn a1 a2 m0 K) : am_Met mX5_goIn [.ref 0, .int a1, .int a2] (fX5 m0) 0 0 (zV fX5 K) := by
  unfold wX5_goIn at hw
  refine am_Met.of2 (ls := [some (.ref 0), some (.int a1), some (.int a2), none, none, none]) pf_X5_goIn rfl rfl rfl rfl ?_
  refine am_aload_n dX5_goIn_0 rfl ?_
  refine am_iload_n dX5_goIn_1 rfl ?_
  refine am_selfP fam_X5 rfl dX5_goIn_2 q_X5_goIn_122 rfl (sX5_pointed hw) rfl rfl rfl rfl rfl (fun r1 hw => ?_)
  refine am_istore_n' (ls' := [some (.ref 0), some (.int a1), some (.int a2), some (.int r1), none, none]) dX5_goIn_5 rfl rfl rfl ?_
  refine am_iconst dX5_goIn_6 ic_0 ?_
  refine am_istore' (ls' := [some (.ref 0), some (.int a1), some (.int a2), some (.int r1), some (.int (0 : Int32)), none]) dX5_goIn_7 rfl rfl rfl ?_
  obtain ⟨n10, hw⟩ := hw
  refine am_forget (ls' := [some (.ref 0), some (.int a1), some (.int a2), some (.int r1), some (.int (0 : Int32)), none]) [true, true, true, true, true, false] rfl ?_
  exact slpX5_goIn_9  n10 _ _ _ _ _ hw

def lpX5_goOut_9 (K : Mu → Prop)  : Nat → Int32 → Int32 → Int32 → Int32 → Mu → Prop
  | 0, _, _, _, _, _ => False
  | n + 1, v1, v2, v3, v4, m0 => ((v2 ≤ v4 → K m0) ∧ (¬ v2 ≤ v4 → ((v1 = 0 → wX5_take (12 : Int32) ((v2 - (1 : Int32)) - v4) m0 (fun (r4 : Int32) (m5 : Mu) => wX5_insert v3 v4 r4 m5 (fun m6 : Mu => ∀ x7 : Int32, x7 = v4 + (1 : Int32) → lpX5_goOut_9 K n v1 v2 v3 x7 m6))) ∧ (¬ v1 = 0 → (vp_in (43 : Int32) 148 ∧ wX5_take (12 : Int32) (((m0 0 ((43 : Int32)).toNatClampNeg) - v2) + v4) m0 (fun (r8 : Int32) (m9 : Mu) => wX5_insert v3 v4 r8 m9 (fun m10 : Mu => ∀ x11 : Int32, x11 = v4 + (1 : Int32) → lpX5_goOut_9 K n v1 v2 v3 x11 m10)))))))
set_option maxRecDepth 20000 in
theorem slpX5_goOut_9 {K : Mu → Prop} : ∀ (n : Nat) (v1 v2 v3 v4 : Int32) (m0 : Mu), lpX5_goOut_9 K n v1 v2 v3 v4 m0 → am_Ok mX5_goOut none (zV fX5 K) 0 0 9 [some (.ref 0), some (.int v1), some (.int v2), some (.int v3), some (.int v4), none] [] (fX5 m0) := by
  intro n
  induction n with
  | zero => intro v1 v2 v3 v4 m0 hw; exact False.elim hw
  | succ n ih =>
    intro v1 v2 v3 v4 m0 hw
    unfold lpX5_goOut_9 at hw
    refine am_iload dX5_goOut_9 rfl ?_
    refine am_iload_n dX5_goOut_11 rfl ?_
    refine am_icmp_ge 63 dX5_goOut_12 (by decide) (fun c2 => ?_) (fun c2 => ?_)
    · have hw := hw.1 c2
      exact am_vreturn dX5_goOut_63 rfl ⟨_, rfl, rfl, hw⟩
    · have hw := hw.2 c2
      refine am_aload_n dX5_goOut_15 rfl ?_
      refine am_bipush dX5_goOut_16 bc_12 ?_
      refine am_iload_n dX5_goOut_18 rfl ?_
      refine am_if_ne 31 dX5_goOut_19 (by decide) (fun c3 => ?_) (fun c3 => ?_)
      · have hw := hw.1 c3
        refine am_iload_n dX5_goOut_22 rfl ?_
        refine am_iconst dX5_goOut_23 ic_1 ?_
        refine am_isub dX5_goOut_24 ?_
        refine am_iload dX5_goOut_25 rfl ?_
        refine am_isub dX5_goOut_27 ?_
        refine am_goto 43 dX5_goOut_28 (by decide) ?_
        refine am_selfI fam_X5 rfl dX5_goOut_43 q_X5_goOut_113 rfl (sX5_take hw) rfl rfl rfl rfl rfl (fun r4 m5 hw => ?_)
        refine am_istore' (ls' := [some (.ref 0), some (.int v1), some (.int v2), some (.int v3), some (.int v4), some (.int r4)]) dX5_goOut_46 rfl rfl rfl ?_
        refine am_aload_n dX5_goOut_48 rfl ?_
        refine am_iload_n dX5_goOut_49 rfl ?_
        refine am_iload dX5_goOut_50 rfl ?_
        refine am_iload dX5_goOut_52 rfl ?_
        refine am_selfU fam_X5 rfl dX5_goOut_54 q_X5_goOut_106 rfl (sX5_insert hw) rfl rfl rfl rfl rfl (fun m6 hw => ?_)
        refine am_iinc' (lf := fun y9 => [some (.ref 0), some (.int v1), some (.int v2), some (.int v3), some (.int y9), some (.int r4)]) dX5_goOut_57 rfl rfl rfl ic_1 (fun _ => rfl) (fun x7 ex7 => ?_)
        have hw := hw x7 ex7
        refine am_goto 9 dX5_goOut_60 (by decide) ?_
        refine am_forget (ls' := [some (.ref 0), some (.int v1), some (.int v2), some (.int v3), some (.int x7), none]) [true, true, true, true, true, false] rfl ?_
        exact ih _ _ _ _ _ hw
      · have hw := hw.2 c3
        refine am_aload_n dX5_goOut_31 rfl ?_
        refine am_getf dX5_goOut_32 fl_X5_7 rfl rfl ?_
        refine am_bipush dX5_goOut_35 bc_43 ?_
        refine am_iaload dX5_goOut_37 rfl hw.1 ?_
        have hw := hw.2
        refine am_iload_n dX5_goOut_38 rfl ?_
        refine am_isub dX5_goOut_39 ?_
        refine am_iload dX5_goOut_40 rfl ?_
        refine am_iadd dX5_goOut_42 ?_
        refine am_selfI fam_X5 rfl dX5_goOut_43 q_X5_goOut_113 rfl (sX5_take hw) rfl rfl rfl rfl rfl (fun r8 m9 hw => ?_)
        refine am_istore' (ls' := [some (.ref 0), some (.int v1), some (.int v2), some (.int v3), some (.int v4), some (.int r8)]) dX5_goOut_46 rfl rfl rfl ?_
        refine am_aload_n dX5_goOut_48 rfl ?_
        refine am_iload_n dX5_goOut_49 rfl ?_
        refine am_iload dX5_goOut_50 rfl ?_
        refine am_iload dX5_goOut_52 rfl ?_
        refine am_selfU fam_X5 rfl dX5_goOut_54 q_X5_goOut_106 rfl (sX5_insert hw) rfl rfl rfl rfl rfl (fun m10 hw => ?_)
        refine am_iinc' (lf := fun y9 => [some (.ref 0), some (.int v1), some (.int v2), some (.int v3), some (.int y9), some (.int r8)]) dX5_goOut_57 rfl rfl rfl ic_1 (fun _ => rfl) (fun x11 ex11 => ?_)
        have hw := hw x11 ex11
        refine am_goto 9 dX5_goOut_60 (by decide) ?_
        refine am_forget (ls' := [some (.ref 0), some (.int v1), some (.int v2), some (.int v3), some (.int x11), none]) [true, true, true, true, true, false] rfl ?_
        exact ih _ _ _ _ _ hw
def wX5_goOut (a1 a2 : Int32) (m0 : Mu) (K : Mu → Prop) : Prop := wX5_pointed a1 m0 (fun r1 : Int32 => (∃ n12 : Nat, lpX5_goOut_9 K n12 a1 a2 r1 (0 : Int32) m0))
set_option maxRecDepth 20000 in
theorem sX5_goOut {a1 a2 : Int32} {m0 : Mu} {K : Mu → Prop} (hw : wX5_goOut a1 a2 m0 K) : am_Met mX5_goOut [.ref 0, .int a1, .int a2] (fX5 m0) 0 0 (zV fX5 K) := by
  unfold wX5_goOut at hw
  refine am_Met.of2 (ls := [some (.ref 0), some (.int a1), some (.int a2), none, none, none]) pf_X5_goOut rfl rfl rfl rfl ?_
  refine am_aload_n dX5_goOut_0 rfl ?_
  refine am_iload_n dX5_goOut_1 rfl ?_
  refine am_selfP fam_X5 rfl dX5_goOut_2 q_X5_goOut_122 rfl (sX5_pointed hw) rfl rfl rfl rfl rfl (fun r1 hw => ?_)
  refine am_istore_n' (ls' := [some (.ref 0), some (.int a1), some (.int a2), some (.int r1), none, none]) dX5_goOut_5 rfl rfl rfl ?_
  refine am_iconst dX5_goOut_6 ic_0 ?_
  refine am_istore' (ls' := [some (.ref 0), some (.int a1), some (.int a2), some (.int r1), some (.int (0 : Int32)), none]) dX5_goOut_7 rfl rfl rfl ?_
  obtain ⟨n12, hw⟩ := hw
  refine am_forget (ls' := [some (.ref 0), some (.int a1), some (.int a2), some (.int r1), some (.int (0 : Int32)), none]) [true, true, true, true, true, false] rfl ?_
  exact slpX5_goOut_9  n12 _ _ _ _ _ hw

def lpX5_wrongMove_9 (m0 : Mu) (K : Int32 → Prop)  : Nat → Int32 → Int32 → Int32 → Int32 → Int32 → Int32 → Int32 → Prop
  | 0, _, _, _, _, _, _, _ => False
  | n + 1, v1, v2, v3, v4, v5, v6, v7 => (((v2 + v3) ≤ v7 → ((v6 = 0 → K (-7 : Int32)) ∧ (¬ v6 = 0 → wX5_used v4 m0 (fun r3 : Int32 => (vp_in ((0 : Int32) + v4) 148 ∧ (((r3 + v5) ≤ (m0 0 (((0 : Int32) + v4)).toNatClampNeg) → K (0 : Int32)) ∧ (¬ (r3 + v5) ≤ (m0 0 (((0 : Int32) + v4)).toNatClampNeg) → K (-8 : Int32)))))))) ∧ (¬ (v2 + v3) ≤ v7 → wX5_cell v1 v7 m0 (fun r5 : Int32 => (vp_in r5 148 ∧ ∀ x6 : Int32, x6 = (m0 0 (r5).toNatClampNeg) → (vp_in ((15 : Int32) + x6) 148 ∧ ∀ x7 : Int32, x7 = (v5 + (m0 0 (((15 : Int32) + x6)).toNatClampNeg)) → ((v6 = 0 → (vp_in ((23 : Int32) + x6) 148 ∧ (((m0 0 (((23 : Int32) + x6)).toNatClampNeg) = 0 → ∀ x10 : Int32, x10 = v7 + (1 : Int32) → lpX5_wrongMove_9 m0 K n v1 v2 v3 v4 x7 (1 : Int32) x10) ∧ (¬ (m0 0 (((23 : Int32) + x6)).toNatClampNeg) = 0 → ∀ x11 : Int32, x11 = v7 + (1 : Int32) → lpX5_wrongMove_9 m0 K n v1 v2 v3 v4 x7 (0 : Int32) x11)))) ∧ (¬ v6 = 0 → ∀ x12 : Int32, x12 = v7 + (1 : Int32) → lpX5_wrongMove_9 m0 K n v1 v2 v3 v4 x7 (1 : Int32) x12)))))))
set_option maxRecDepth 20000 in
theorem slpX5_wrongMove_9 {m0 : Mu} {K : Int32 → Prop} : ∀ (n : Nat) (v1 v2 v3 v4 v5 v6 v7 : Int32), lpX5_wrongMove_9 m0 K n v1 v2 v3 v4 v5 v6 v7 → am_Ok mX5_wrongMove none (zP (fX5 m0) K) 0 0 9 [some (.ref 0), some (.int v1), some (.int v2), some (.int v3), some (.int v4), some (.int v5), some (.int v6), some (.int v7), none] [] (fX5 m0) := by
  intro n
  induction n with
  | zero => intro v1 v2 v3 v4 v5 v6 v7 hw; exact False.elim hw
  | succ n ih =>
    intro v1 v2 v3 v4 v5 v6 v7 hw
    unfold lpX5_wrongMove_9 at hw
    refine am_iload dX5_wrongMove_9 rfl ?_
    refine am_iload_n dX5_wrongMove_11 rfl ?_
    refine am_iload_n dX5_wrongMove_12 rfl ?_
    refine am_iadd dX5_wrongMove_13 ?_
    refine am_icmp_ge 77 dX5_wrongMove_14 (by decide) (fun c1 => ?_) (fun c1 => ?_)
    · have hw := hw.1 c1
      refine am_iload dX5_wrongMove_77 rfl ?_
      refine am_if_ne 87 dX5_wrongMove_79 (by decide) (fun c2 => ?_) (fun c2 => ?_)
      · have hw := hw.1 c2
        refine am_bipush dX5_wrongMove_82 bc_m7 ?_
        refine am_goto 114 dX5_wrongMove_84 (by decide) ?_
        exact am_ireturn dX5_wrongMove_114 rfl ⟨_, rfl, rfl, hw⟩
      · have hw := hw.2 c2
        refine am_aload_n dX5_wrongMove_87 rfl ?_
        refine am_iload dX5_wrongMove_88 rfl ?_
        refine am_selfP fam_X5 rfl dX5_wrongMove_90 q_X5_wrongMove_96 rfl (sX5_used hw) rfl rfl rfl rfl rfl (fun r3 hw => ?_)
        refine am_iload dX5_wrongMove_93 rfl ?_
        refine am_iadd dX5_wrongMove_95 ?_
        refine am_aload_n dX5_wrongMove_96 rfl ?_
        refine am_getf dX5_wrongMove_97 fl_X5_7 rfl rfl ?_
        refine am_iconst dX5_wrongMove_100 ic_0 ?_
        refine am_iload dX5_wrongMove_101 rfl ?_
        refine am_iadd dX5_wrongMove_103 ?_
        refine am_iaload dX5_wrongMove_104 rfl hw.1 ?_
        have hw := hw.2
        refine am_icmp_le 113 dX5_wrongMove_105 (by decide) (fun c4 => ?_) (fun c4 => ?_)
        · have hw := hw.1 c4
          refine am_iconst dX5_wrongMove_113 ic_0 ?_
          exact am_ireturn dX5_wrongMove_114 rfl ⟨_, rfl, rfl, hw⟩
        · have hw := hw.2 c4
          refine am_bipush dX5_wrongMove_108 bc_m8 ?_
          refine am_goto 114 dX5_wrongMove_110 (by decide) ?_
          exact am_ireturn dX5_wrongMove_114 rfl ⟨_, rfl, rfl, hw⟩
    · have hw := hw.2 c1
      refine am_aload_n dX5_wrongMove_17 rfl ?_
      refine am_getf dX5_wrongMove_18 fl_X5_7 rfl rfl ?_
      refine am_aload_n dX5_wrongMove_21 rfl ?_
      refine am_iload_n dX5_wrongMove_22 rfl ?_
      refine am_iload dX5_wrongMove_23 rfl ?_
      refine am_selfP fam_X5 rfl dX5_wrongMove_25 q_X5_wrongMove_88 rfl (sX5_cell hw) rfl rfl rfl rfl rfl (fun r5 hw => ?_)
      refine am_iaload dX5_wrongMove_28 rfl hw.1 ?_
      have hw := hw.2
      refine am_top (fun x6 ex6 => ?_)
      have hw := hw x6 ex6
      refine am_istore' (ls' := [some (.ref 0), some (.int v1), some (.int v2), some (.int v3), some (.int v4), some (.int v5), some (.int v6), some (.int v7), some (.int x6)]) dX5_wrongMove_29 rfl rfl rfl ?_
      refine am_iload dX5_wrongMove_31 rfl ?_
      refine am_aload_n dX5_wrongMove_33 rfl ?_
      refine am_getf dX5_wrongMove_34 fl_X5_7 rfl rfl ?_
      refine am_bipush dX5_wrongMove_37 bc_15 ?_
      refine am_iload dX5_wrongMove_39 rfl ?_
      refine am_iadd dX5_wrongMove_41 ?_
      refine am_iaload dX5_wrongMove_42 rfl hw.1 ?_
      have hw := hw.2
      refine am_iadd dX5_wrongMove_43 ?_
      refine am_top (fun x7 ex7 => ?_)
      have hw := hw x7 ex7
      refine am_istore' (ls' := [some (.ref 0), some (.int v1), some (.int v2), some (.int v3), some (.int v4), some (.int x7), some (.int v6), some (.int v7), some (.int x6)]) dX5_wrongMove_44 rfl rfl rfl ?_
      refine am_iload dX5_wrongMove_46 rfl ?_
      refine am_if_ne 64 dX5_wrongMove_48 (by decide) (fun c8 => ?_) (fun c8 => ?_)
      · have hw := hw.1 c8
        refine am_aload_n dX5_wrongMove_51 rfl ?_
        refine am_getf dX5_wrongMove_52 fl_X5_7 rfl rfl ?_
        refine am_bipush dX5_wrongMove_55 bc_23 ?_
        refine am_iload dX5_wrongMove_57 rfl ?_
        refine am_iadd dX5_wrongMove_59 ?_
        refine am_iaload dX5_wrongMove_60 rfl hw.1 ?_
        have hw := hw.2
        refine am_if_ne 68 dX5_wrongMove_61 (by decide) (fun c9 => ?_) (fun c9 => ?_)
        · have hw := hw.1 c9
          refine am_iconst dX5_wrongMove_64 ic_1 ?_
          refine am_goto 69 dX5_wrongMove_65 (by decide) ?_
          refine am_istore' (ls' := [some (.ref 0), some (.int v1), some (.int v2), some (.int v3), some (.int v4), some (.int x7), some (.int (1 : Int32)), some (.int v7), some (.int x6)]) dX5_wrongMove_69 rfl rfl rfl ?_
          refine am_iinc' (lf := fun y9 => [some (.ref 0), some (.int v1), some (.int v2), some (.int v3), some (.int v4), some (.int x7), some (.int (1 : Int32)), some (.int y9), some (.int x6)]) dX5_wrongMove_71 rfl rfl rfl ic_1 (fun _ => rfl) (fun x10 ex10 => ?_)
          have hw := hw x10 ex10
          refine am_goto 9 dX5_wrongMove_74 (by decide) ?_
          refine am_forget (ls' := [some (.ref 0), some (.int v1), some (.int v2), some (.int v3), some (.int v4), some (.int x7), some (.int (1 : Int32)), some (.int x10), none]) [true, true, true, true, true, true, true, true, false] rfl ?_
          exact ih _ _ _ _ _ _ _ hw
        · have hw := hw.2 c9
          refine am_iconst dX5_wrongMove_68 ic_0 ?_
          refine am_istore' (ls' := [some (.ref 0), some (.int v1), some (.int v2), some (.int v3), some (.int v4), some (.int x7), some (.int (0 : Int32)), some (.int v7), some (.int x6)]) dX5_wrongMove_69 rfl rfl rfl ?_
          refine am_iinc' (lf := fun y9 => [some (.ref 0), some (.int v1), some (.int v2), some (.int v3), some (.int v4), some (.int x7), some (.int (0 : Int32)), some (.int y9), some (.int x6)]) dX5_wrongMove_71 rfl rfl rfl ic_1 (fun _ => rfl) (fun x11 ex11 => ?_)
          have hw := hw x11 ex11
          refine am_goto 9 dX5_wrongMove_74 (by decide) ?_
          refine am_forget (ls' := [some (.ref 0), some (.int v1), some (.int v2), some (.int v3), some (.int v4), some (.int x7), some (.int (0 : Int32)), some (.int x11), none]) [true, true, true, true, true, true, true, true, false] rfl ?_
          exact ih _ _ _ _ _ _ _ hw
      · have hw := hw.2 c8
        refine am_iconst dX5_wrongMove_64 ic_1 ?_
        refine am_goto 69 dX5_wrongMove_65 (by decide) ?_
        refine am_istore' (ls' := [some (.ref 0), some (.int v1), some (.int v2), some (.int v3), some (.int v4), some (.int x7), some (.int (1 : Int32)), some (.int v7), some (.int x6)]) dX5_wrongMove_69 rfl rfl rfl ?_
        refine am_iinc' (lf := fun y9 => [some (.ref 0), some (.int v1), some (.int v2), some (.int v3), some (.int v4), some (.int x7), some (.int (1 : Int32)), some (.int y9), some (.int x6)]) dX5_wrongMove_71 rfl rfl rfl ic_1 (fun _ => rfl) (fun x12 ex12 => ?_)
        have hw := hw x12 ex12
        refine am_goto 9 dX5_wrongMove_74 (by decide) ?_
        refine am_forget (ls' := [some (.ref 0), some (.int v1), some (.int v2), some (.int v3), some (.int v4), some (.int x7), some (.int (1 : Int32)), some (.int x12), none]) [true, true, true, true, true, true, true, true, false] rfl ?_
        exact ih _ _ _ _ _ _ _ hw
def wX5_wrongMove (a1 a2 a3 a4 : Int32) (m0 : Mu) (K : Int32 → Prop) : Prop := (∃ n13 : Nat, lpX5_wrongMove_9 m0 K n13 a1 a2 a3 a4 (0 : Int32) (0 : Int32) a2)
set_option maxRecDepth 20000 in
theorem sX5_wrongMove {a1 a2 a3 a4 : Int32} {m0 : Mu} {K : Int32 → Prop} (hw : wX5_wrongMove a1 a2 a3 a4 m0 K) : am_Met mX5_wrongMove [.ref 0, .int a1, .int a2, .int a3, .int a4] (fX5 m0) 0 0 (zP (fX5 m0) K) := by
  unfold wX5_wrongMove at hw
  refine am_Met.of2 (ls := [some (.ref 0), some (.int a1), some (.int a2), some (.int a3), some (.int a4), none, none, none, none]) pf_X5_wrongMove rfl rfl rfl rfl ?_
  refine am_iconst dX5_wrongMove_0 ic_0 ?_
  refine am_istore' (ls' := [some (.ref 0), some (.int a1), some (.int a2), some (.int a3), some (.int a4), some (.int (0 : Int32)), none, none, none]) dX5_wrongMove_1 rfl rfl rfl ?_
  refine am_iconst dX5_wrongMove_3 ic_0 ?_
  refine am_istore' (ls' := [some (.ref 0), some (.int a1), some (.int a2), some (.int a3), some (.int a4), some (.int (0 : Int32)), some (.int (0 : Int32)), none, none]) dX5_wrongMove_4 rfl rfl rfl ?_
  refine am_iload_n dX5_wrongMove_6 rfl ?_
  refine am_istore' (ls' := [some (.ref 0), some (.int a1), some (.int a2), some (.int a3), some (.int a4), some (.int (0 : Int32)), some (.int (0 : Int32)), some (.int a2), none]) dX5_wrongMove_7 rfl rfl rfl ?_
  obtain ⟨n13, hw⟩ := hw
  refine am_forget (ls' := [some (.ref 0), some (.int a1), some (.int a2), some (.int a3), some (.int a4), some (.int (0 : Int32)), some (.int (0 : Int32)), some (.int a2), none]) [true, true, true, true, true, true, true, true, false] rfl ?_
  exact slpX5_wrongMove_9  n13 _ _ _ _ _ _ _ hw

def wX5_moveIn (a1 a2 : Int32) (m0 : Mu) (K : Int32 → Mu → Prop) : Prop := wX5_isEnd a1 (fun r1 : Int32 => ((r1 = 0 → K (-4 : Int32) m0) ∧ (¬ r1 = 0 → (((1 : Int32) ≤ a2 → wX5_pointed a1 m0 (fun r4 : Int32 => wX5_isTrack r4 m0 (fun r5 : Int32 => ((r5 = 0 → K (-2 : Int32) m0) ∧ (¬ r5 = 0 → (vp_in ((31 : Int32) + r4) 148 ∧ ((a2 ≤ (m0 0 (((31 : Int32) + r4)).toNatClampNeg) → wX5_wrongMove r4 (0 : Int32) a2 (12 : Int32) m0 (fun r8 : Int32 => ((r8 = 0 → wX5_goIn a1 a2 m0 (fun m10 : Mu => wX5_write (((10 : Int32) + ((10 : Int32) * a1)) + a2) m10 (fun m11 : Mu => (vp_in (43 : Int32) 148 ∧ K (m11 0 ((43 : Int32)).toNatClampNeg) m11)))) ∧ (¬ r8 = 0 → K r8 m0)))) ∧ (¬ a2 ≤ (m0 0 (((31 : Int32) + r4)).toNatClampNeg) → K (-6 : Int32) m0)))))))) ∧ (¬ (1 : Int32) ≤ a2 → K (-4 : Int32) m0)))))
set_option maxRecDepth 20000 in
theorem sX5_moveIn {a1 a2 : Int32} {m0 : Mu} {K : Int32 → Mu → Prop} (hw : wX5_moveIn a1 a2 m0 K) : am_Met mX5_moveIn [.ref 0, .int a1, .int a2] (fX5 m0) 0 0 (zI fX5 K) := by
  unfold wX5_moveIn at hw
  refine am_Met.of2 (ls := [some (.ref 0), some (.int a1), some (.int a2), none, none]) pf_X5_moveIn rfl rfl rfl rfl ?_
  refine am_iload_n dX5_moveIn_0 rfl ?_
  refine am_stS dX5_moveIn_1 q_X5_moveIn_119 (sX5_isEnd hw) rfl rfl rfl rfl (fun r1 hw => ?_)
  refine am_if_eq 12 dX5_moveIn_4 (by decide) (fun c2 => ?_) (fun c2 => ?_)
  · have hw := hw.1 c2
    refine am_bipush dX5_moveIn_12 bc_m4 ?_
    exact am_ireturn dX5_moveIn_14 rfl ⟨_, _, rfl, rfl, hw⟩
  · have hw := hw.2 c2
    refine am_iload_n dX5_moveIn_7 rfl ?_
    refine am_iconst dX5_moveIn_8 ic_1 ?_
    refine am_icmp_ge 15 dX5_moveIn_9 (by decide) (fun c3 => ?_) (fun c3 => ?_)
    · have hw := hw.1 c3
      refine am_aload_n dX5_moveIn_15 rfl ?_
      refine am_iload_n dX5_moveIn_16 rfl ?_
      refine am_selfP fam_X5 rfl dX5_moveIn_17 q_X5_moveIn_122 rfl (sX5_pointed hw) rfl rfl rfl rfl rfl (fun r4 hw => ?_)
      refine am_istore_n' (ls' := [some (.ref 0), some (.int a1), some (.int a2), some (.int r4), none]) dX5_moveIn_20 rfl rfl rfl ?_
      refine am_aload_n dX5_moveIn_21 rfl ?_
      refine am_iload_n dX5_moveIn_22 rfl ?_
      refine am_selfP fam_X5 rfl dX5_moveIn_23 q_X5_moveIn_103 rfl (sX5_isTrack hw) rfl rfl rfl rfl rfl (fun r5 hw => ?_)
      refine am_if_ne 32 dX5_moveIn_26 (by decide) (fun c6 => ?_) (fun c6 => ?_)
      · have hw := hw.1 c6
        refine am_bipush dX5_moveIn_29 bc_m2 ?_
        exact am_ireturn dX5_moveIn_31 rfl ⟨_, _, rfl, rfl, hw⟩
      · have hw := hw.2 c6
        refine am_aload_n dX5_moveIn_32 rfl ?_
        refine am_getf dX5_moveIn_33 fl_X5_7 rfl rfl ?_
        refine am_bipush dX5_moveIn_36 bc_31 ?_
        refine am_iload_n dX5_moveIn_38 rfl ?_
        refine am_iadd dX5_moveIn_39 ?_
        refine am_iaload dX5_moveIn_40 rfl hw.1 ?_
        have hw := hw.2
        refine am_iload_n dX5_moveIn_41 rfl ?_
        refine am_icmp_ge 48 dX5_moveIn_42 (by decide) (fun c7 => ?_) (fun c7 => ?_)
        · have hw := hw.1 c7
          refine am_aload_n dX5_moveIn_48 rfl ?_
          refine am_iload_n dX5_moveIn_49 rfl ?_
          refine am_iconst dX5_moveIn_50 ic_0 ?_
          refine am_iload_n dX5_moveIn_51 rfl ?_
          refine am_bipush dX5_moveIn_52 bc_12 ?_
          refine am_selfP fam_X5 rfl dX5_moveIn_54 q_X5_moveIn_135 rfl (sX5_wrongMove hw) rfl rfl rfl rfl rfl (fun r8 hw => ?_)
          refine am_istore' (ls' := [some (.ref 0), some (.int a1), some (.int a2), some (.int r4), some (.int r8)]) dX5_moveIn_57 rfl rfl rfl ?_
          refine am_iload dX5_moveIn_59 rfl ?_
          refine am_if_eq 67 dX5_moveIn_61 (by decide) (fun c9 => ?_) (fun c9 => ?_)
          · have hw := hw.1 c9
            refine am_aload_n dX5_moveIn_67 rfl ?_
            refine am_iload_n dX5_moveIn_68 rfl ?_
            refine am_iload_n dX5_moveIn_69 rfl ?_
            refine am_selfU fam_X5 rfl dX5_moveIn_70 q_X5_moveIn_139 rfl (sX5_goIn hw) rfl rfl rfl rfl rfl (fun m10 hw => ?_)
            refine am_aload_n dX5_moveIn_73 rfl ?_
            refine am_bipush dX5_moveIn_74 bc_10 ?_
            refine am_bipush dX5_moveIn_76 bc_10 ?_
            refine am_iload_n dX5_moveIn_78 rfl ?_
            refine am_imul dX5_moveIn_79 ?_
            refine am_iadd dX5_moveIn_80 ?_
            refine am_iload_n dX5_moveIn_81 rfl ?_
            refine am_iadd dX5_moveIn_82 ?_
            refine am_selfU fam_X5 rfl dX5_moveIn_83 q_X5_moveIn_129 rfl (sX5_write hw) rfl rfl rfl rfl rfl (fun m11 hw => ?_)
            refine am_aload_n dX5_moveIn_86 rfl ?_
            refine am_getf dX5_moveIn_87 fl_X5_7 rfl rfl ?_
            refine am_bipush dX5_moveIn_90 bc_43 ?_
            refine am_iaload dX5_moveIn_92 rfl hw.1 ?_
            have hw := hw.2
            exact am_ireturn dX5_moveIn_93 rfl ⟨_, _, rfl, rfl, hw⟩
          · have hw := hw.2 c9
            refine am_iload dX5_moveIn_64 rfl ?_
            exact am_ireturn dX5_moveIn_66 rfl ⟨_, _, rfl, rfl, hw⟩
        · have hw := hw.2 c7
          refine am_bipush dX5_moveIn_45 bc_m6 ?_
          exact am_ireturn dX5_moveIn_47 rfl ⟨_, _, rfl, rfl, hw⟩
    · have hw := hw.2 c3
      refine am_bipush dX5_moveIn_12 bc_m4 ?_
      exact am_ireturn dX5_moveIn_14 rfl ⟨_, _, rfl, rfl, hw⟩

def jnX5_moveOut_65 (K : Int32 → Mu → Prop) (v1 v2 v3 u0 u1 : Int32) (m0 : Mu) : Prop := wX5_wrongMove u1 u0 v2 v3 m0 (fun r10 : Int32 => ((r10 = 0 → wX5_goOut v1 v2 m0 (fun m12 : Mu => wX5_write (((30 : Int32) + ((10 : Int32) * v1)) + v2) m12 (fun m13 : Mu => (vp_in ((31 : Int32) + v3) 148 ∧ K (m13 0 (((31 : Int32) + v3)).toNatClampNeg) m13)))) ∧ (¬ r10 = 0 → K r10 m0)))
set_option maxRecDepth 20000 in
theorem sjnX5_moveOut_65 {m0 : Mu} {K : Int32 → Mu → Prop} {v1 v2 v3 u0 u1 : Int32} (hw : jnX5_moveOut_65 K v1 v2 v3 u0 u1 m0) : am_Ok mX5_moveOut none (zI fX5 K) 0 0 65 [some (.ref 0), some (.int v1), some (.int v2), some (.int v3), none, none] [.int u0, .int u1, .ref 0] (fX5 m0) := by
  unfold jnX5_moveOut_65 at hw
  refine am_iload_n dX5_moveOut_65 rfl ?_
  refine am_iload_n dX5_moveOut_66 rfl ?_
  refine am_selfP fam_X5 rfl dX5_moveOut_67 q_X5_moveOut_135 rfl (sX5_wrongMove hw) rfl rfl rfl rfl rfl (fun r10 hw => ?_)
  refine am_istore' (ls' := [some (.ref 0), some (.int v1), some (.int v2), some (.int v3), none, some (.int r10)]) dX5_moveOut_70 rfl rfl rfl ?_
  refine am_iload dX5_moveOut_72 rfl ?_
  refine am_if_eq 80 dX5_moveOut_74 (by decide) (fun c11 => ?_) (fun c11 => ?_)
  · have hw := hw.1 c11
    refine am_aload_n dX5_moveOut_80 rfl ?_
    refine am_iload_n dX5_moveOut_81 rfl ?_
    refine am_iload_n dX5_moveOut_82 rfl ?_
    refine am_selfU fam_X5 rfl dX5_moveOut_83 q_X5_moveOut_143 rfl (sX5_goOut hw) rfl rfl rfl rfl rfl (fun m12 hw => ?_)
    refine am_aload_n dX5_moveOut_86 rfl ?_
    refine am_bipush dX5_moveOut_87 bc_30 ?_
    refine am_bipush dX5_moveOut_89 bc_10 ?_
    refine am_iload_n dX5_moveOut_91 rfl ?_
    refine am_imul dX5_moveOut_92 ?_
    refine am_iadd dX5_moveOut_93 ?_
    refine am_iload_n dX5_moveOut_94 rfl ?_
    refine am_iadd dX5_moveOut_95 ?_
    refine am_selfU fam_X5 rfl dX5_moveOut_96 q_X5_moveOut_129 rfl (sX5_write hw) rfl rfl rfl rfl rfl (fun m13 hw => ?_)
    refine am_aload_n dX5_moveOut_99 rfl ?_
    refine am_getf dX5_moveOut_100 fl_X5_7 rfl rfl ?_
    refine am_bipush dX5_moveOut_103 bc_31 ?_
    refine am_iload_n dX5_moveOut_105 rfl ?_
    refine am_iadd dX5_moveOut_106 ?_
    refine am_iaload dX5_moveOut_107 rfl hw.1 ?_
    have hw := hw.2
    exact am_ireturn dX5_moveOut_108 rfl ⟨_, _, rfl, rfl, hw⟩
  · have hw := hw.2 c11
    refine am_iload dX5_moveOut_77 rfl ?_
    exact am_ireturn dX5_moveOut_79 rfl ⟨_, _, rfl, rfl, hw⟩
def wX5_moveOut (a1 a2 : Int32) (m0 : Mu) (K : Int32 → Mu → Prop) : Prop := wX5_isEnd a1 (fun r1 : Int32 => ((r1 = 0 → K (-4 : Int32) m0) ∧ (¬ r1 = 0 → (((1 : Int32) ≤ a2 → wX5_pointed a1 m0 (fun r4 : Int32 => wX5_isTrack r4 m0 (fun r5 : Int32 => ((r5 = 0 → K (-2 : Int32) m0) ∧ (¬ r5 = 0 → (vp_in (43 : Int32) 148 ∧ ∀ x7 : Int32, x7 = (m0 0 ((43 : Int32)).toNatClampNeg) → ((a2 ≤ x7 → ((a1 = 0 → jnX5_moveOut_65 K a1 a2 r4 (0 : Int32) (12 : Int32) m0) ∧ (¬ a1 = 0 → jnX5_moveOut_65 K a1 a2 r4 (x7 - a2) (12 : Int32) m0))) ∧ (¬ a2 ≤ x7 → K (-6 : Int32) m0)))))))) ∧ (¬ (1 : Int32) ≤ a2 → K (-4 : Int32) m0)))))
set_option maxRecDepth 20000 in
theorem sX5_moveOut {a1 a2 : Int32} {m0 : Mu} {K : Int32 → Mu → Prop} (hw : wX5_moveOut a1 a2 m0 K) : am_Met mX5_moveOut [.ref 0, .int a1, .int a2] (fX5 m0) 0 0 (zI fX5 K) := by
  unfold wX5_moveOut at hw
  refine am_Met.of2 (ls := [some (.ref 0), some (.int a1), some (.int a2), none, none, none]) pf_X5_moveOut rfl rfl rfl rfl ?_
  refine am_iload_n dX5_moveOut_0 rfl ?_
  refine am_stS dX5_moveOut_1 q_X5_moveOut_119 (sX5_isEnd hw) rfl rfl rfl rfl (fun r1 hw => ?_)
  refine am_if_eq 12 dX5_moveOut_4 (by decide) (fun c2 => ?_) (fun c2 => ?_)
  · have hw := hw.1 c2
    refine am_bipush dX5_moveOut_12 bc_m4 ?_
    exact am_ireturn dX5_moveOut_14 rfl ⟨_, _, rfl, rfl, hw⟩
  · have hw := hw.2 c2
    refine am_iload_n dX5_moveOut_7 rfl ?_
    refine am_iconst dX5_moveOut_8 ic_1 ?_
    refine am_icmp_ge 15 dX5_moveOut_9 (by decide) (fun c3 => ?_) (fun c3 => ?_)
    · have hw := hw.1 c3
      refine am_aload_n dX5_moveOut_15 rfl ?_
      refine am_iload_n dX5_moveOut_16 rfl ?_
      refine am_selfP fam_X5 rfl dX5_moveOut_17 q_X5_moveOut_122 rfl (sX5_pointed hw) rfl rfl rfl rfl rfl (fun r4 hw => ?_)
      refine am_istore_n' (ls' := [some (.ref 0), some (.int a1), some (.int a2), some (.int r4), none, none]) dX5_moveOut_20 rfl rfl rfl ?_
      refine am_aload_n dX5_moveOut_21 rfl ?_
      refine am_iload_n dX5_moveOut_22 rfl ?_
      refine am_selfP fam_X5 rfl dX5_moveOut_23 q_X5_moveOut_103 rfl (sX5_isTrack hw) rfl rfl rfl rfl rfl (fun r5 hw => ?_)
      refine am_if_ne 32 dX5_moveOut_26 (by decide) (fun c6 => ?_) (fun c6 => ?_)
      · have hw := hw.1 c6
        refine am_bipush dX5_moveOut_29 bc_m2 ?_
        exact am_ireturn dX5_moveOut_31 rfl ⟨_, _, rfl, rfl, hw⟩
      · have hw := hw.2 c6
        refine am_aload_n dX5_moveOut_32 rfl ?_
        refine am_getf dX5_moveOut_33 fl_X5_7 rfl rfl ?_
        refine am_bipush dX5_moveOut_36 bc_43 ?_
        refine am_iaload dX5_moveOut_38 rfl hw.1 ?_
        have hw := hw.2
        refine am_top (fun x7 ex7 => ?_)
        have hw := hw x7 ex7
        refine am_istore' (ls' := [some (.ref 0), some (.int a1), some (.int a2), some (.int r4), some (.int x7), none]) dX5_moveOut_39 rfl rfl rfl ?_
        refine am_iload dX5_moveOut_41 rfl ?_
        refine am_iload_n dX5_moveOut_43 rfl ?_
        refine am_icmp_ge 50 dX5_moveOut_44 (by decide) (fun c8 => ?_) (fun c8 => ?_)
        · have hw := hw.1 c8
          refine am_aload_n dX5_moveOut_50 rfl ?_
          refine am_bipush dX5_moveOut_51 bc_12 ?_
          refine am_iload_n dX5_moveOut_53 rfl ?_
          refine am_if_ne 61 dX5_moveOut_54 (by decide) (fun c9 => ?_) (fun c9 => ?_)
          · have hw := hw.1 c9
            refine am_iconst dX5_moveOut_57 ic_0 ?_
            refine am_goto 65 dX5_moveOut_58 (by decide) ?_
            refine am_forget (ls' := [some (.ref 0), some (.int a1), some (.int a2), some (.int r4), none, none]) [true, true, true, true, false, false] rfl ?_
            exact sjnX5_moveOut_65  hw
          · have hw := hw.2 c9
            refine am_iload dX5_moveOut_61 rfl ?_
            refine am_iload_n dX5_moveOut_63 rfl ?_
            refine am_isub dX5_moveOut_64 ?_
            refine am_forget (ls' := [some (.ref 0), some (.int a1), some (.int a2), some (.int r4), none, none]) [true, true, true, true, false, false] rfl ?_
            exact sjnX5_moveOut_65  hw
        · have hw := hw.2 c8
          refine am_bipush dX5_moveOut_47 bc_m6 ?_
          exact am_ireturn dX5_moveOut_49 rfl ⟨_, _, rfl, rfl, hw⟩
    · have hw := hw.2 c3
      refine am_bipush dX5_moveOut_12 bc_m4 ?_
      exact am_ireturn dX5_moveOut_14 rfl ⟨_, _, rfl, rfl, hw⟩

def wX5_turnsMade (m0 : Mu) (K : Int32 → Prop) : Prop := K (m0 32 3)
set_option maxRecDepth 20000 in
theorem sX5_turnsMade {m0 : Mu} {K : Int32 → Prop} (hw : wX5_turnsMade m0 K) : am_Met mX5_turnsMade [.ref 0] (fX5 m0) 0 0 (zP (fX5 m0) K) := by
  unfold wX5_turnsMade at hw
  refine am_Met.of2 (ls := [some (.ref 0)]) pf_X5_turnsMade rfl rfl rfl rfl ?_
  refine am_aload_n dX5_turnsMade_0 rfl ?_
  refine am_getf dX5_turnsMade_1 fl_X5_132 rfl rfl ?_
  exact am_ireturn dX5_turnsMade_4 rfl ⟨_, rfl, rfl, hw⟩

def wX5_undo (m0 : Mu) (K : Int32 → Mu → Prop) : Prop := (((m0 32 4) = 0 → K (-11 : Int32) m0) ∧ (¬ (m0 32 4) = 0 → ∀ m2 : Mu, m2 = mu_up m0 32 4 ((m0 32 4) - (1 : Int32)) → (vp_in (m2 32 4) 40 ∧ ∀ x3 : Int32, x3 = (m2 5 ((m2 32 4)).toNatClampNeg) → (((2 : Int32) ≤ x3 → (((30 : Int32) ≤ x3 → wX5_goIn ((x3 / (10 : Int32)) - (3 : Int32)) (am_rem x3 (10 : Int32)) m2 (fun m6 : Mu => K x3 m6)) ∧ (¬ (30 : Int32) ≤ x3 → wX5_goOut ((x3 / (10 : Int32)) - (1 : Int32)) (am_rem x3 (10 : Int32)) m2 (fun m7 : Mu => K x3 m7)))) ∧ (¬ (2 : Int32) ≤ x3 → ((x3 = 0 → wX5_turnBy (-1 : Int32) m2 (fun m9 : Mu => K x3 m9)) ∧ (¬ x3 = 0 → wX5_turnBy (1 : Int32) m2 (fun m10 : Mu => K x3 m10))))))))
set_option maxRecDepth 20000 in
theorem sX5_undo {m0 : Mu} {K : Int32 → Mu → Prop} (hw : wX5_undo m0 K) : am_Met mX5_undo [.ref 0] (fX5 m0) 0 0 (zI fX5 K) := by
  unfold wX5_undo at hw
  refine am_Met.of2 (ls := [some (.ref 0), none]) pf_X5_undo rfl rfl rfl rfl ?_
  refine am_aload_n dX5_undo_0 rfl ?_
  refine am_getf dX5_undo_1 fl_X5_81 rfl rfl ?_
  refine am_if_ne 10 dX5_undo_4 (by decide) (fun c1 => ?_) (fun c1 => ?_)
  · have hw := hw.1 c1
    refine am_bipush dX5_undo_7 bc_m11 ?_
    exact am_ireturn dX5_undo_9 rfl ⟨_, _, rfl, rfl, hw⟩
  · have hw := hw.2 c1
    refine am_aload_n dX5_undo_10 rfl ?_
    refine am_dup dX5_undo_11 rfl ?_
    refine am_getf dX5_undo_12 fl_X5_81 rfl rfl ?_
    refine am_iconst dX5_undo_15 ic_1 ?_
    refine am_isub dX5_undo_16 ?_
    refine am_putf' (F := fX5) (m := mu_up m0 32 4 ((m0 32 4) - (1 : Int32))) dX5_undo_17 fp_X5_81 rfl rfl rfl (fun m2 em2 => ?_)
    have hw := hw m2 em2
    refine am_aload_n dX5_undo_20 rfl ?_
    refine am_getf dX5_undo_21 fl_X5_20 rfl rfl ?_
    refine am_aload_n dX5_undo_24 rfl ?_
    refine am_getf dX5_undo_25 fl_X5_81 rfl rfl ?_
    refine am_iaload dX5_undo_28 rfl hw.1 ?_
    have hw := hw.2
    refine am_top (fun x3 ex3 => ?_)
    have hw := hw x3 ex3
    refine am_istore_n' (ls' := [some (.ref 0), some (.int x3)]) dX5_undo_29 rfl rfl rfl ?_
    refine am_iload_n dX5_undo_30 rfl ?_
    refine am_iconst dX5_undo_31 ic_2 ?_
    refine am_icmp_ge 51 dX5_undo_32 (by decide) (fun c4 => ?_) (fun c4 => ?_)
    · have hw := hw.1 c4
      refine am_iload_n dX5_undo_51 rfl ?_
      refine am_bipush dX5_undo_52 bc_30 ?_
      refine am_icmp_ge 74 dX5_undo_54 (by decide) (fun c5 => ?_) (fun c5 => ?_)
      · have hw := hw.1 c5
        refine am_aload_n dX5_undo_74 rfl ?_
        refine am_iload_n dX5_undo_75 rfl ?_
        refine am_bipush dX5_undo_76 bc_10 ?_
        refine am_idiv dX5_undo_78 nz_10 ?_
        refine am_iconst dX5_undo_79 ic_3 ?_
        refine am_isub dX5_undo_80 ?_
        refine am_iload_n dX5_undo_81 rfl ?_
        refine am_bipush dX5_undo_82 bc_10 ?_
        refine am_irem' dX5_undo_84 nz_10 ?_
        refine am_selfU fam_X5 rfl dX5_undo_85 q_X5_undo_139 rfl (sX5_goIn hw) rfl rfl rfl rfl rfl (fun m6 hw => ?_)
        refine am_iload_n dX5_undo_88 rfl ?_
        exact am_ireturn dX5_undo_89 rfl ⟨_, _, rfl, rfl, hw⟩
      · have hw := hw.2 c5
        refine am_aload_n dX5_undo_57 rfl ?_
        refine am_iload_n dX5_undo_58 rfl ?_
        refine am_bipush dX5_undo_59 bc_10 ?_
        refine am_idiv dX5_undo_61 nz_10 ?_
        refine am_iconst dX5_undo_62 ic_1 ?_
        refine am_isub dX5_undo_63 ?_
        refine am_iload_n dX5_undo_64 rfl ?_
        refine am_bipush dX5_undo_65 bc_10 ?_
        refine am_irem' dX5_undo_67 nz_10 ?_
        refine am_selfU fam_X5 rfl dX5_undo_68 q_X5_undo_143 rfl (sX5_goOut hw) rfl rfl rfl rfl rfl (fun m7 hw => ?_)
        refine am_goto 88 dX5_undo_71 (by decide) ?_
        refine am_iload_n dX5_undo_88 rfl ?_
        exact am_ireturn dX5_undo_89 rfl ⟨_, _, rfl, rfl, hw⟩
    · have hw := hw.2 c4
      refine am_aload_n dX5_undo_35 rfl ?_
      refine am_iload_n dX5_undo_36 rfl ?_
      refine am_if_ne 44 dX5_undo_37 (by decide) (fun c8 => ?_) (fun c8 => ?_)
      · have hw := hw.1 c8
        refine am_iconst dX5_undo_40 ic_m1 ?_
        refine am_goto 45 dX5_undo_41 (by decide) ?_
        refine am_selfU fam_X5 rfl dX5_undo_45 q_X5_undo_125 rfl (sX5_turnBy hw) rfl rfl rfl rfl rfl (fun m9 hw => ?_)
        refine am_goto 88 dX5_undo_48 (by decide) ?_
        refine am_iload_n dX5_undo_88 rfl ?_
        exact am_ireturn dX5_undo_89 rfl ⟨_, _, rfl, rfl, hw⟩
      · have hw := hw.2 c8
        refine am_iconst dX5_undo_44 ic_1 ?_
        refine am_selfU fam_X5 rfl dX5_undo_45 q_X5_undo_125 rfl (sX5_turnBy hw) rfl rfl rfl rfl rfl (fun m10 hw => ?_)
        refine am_goto 88 dX5_undo_48 (by decide) ?_
        refine am_iload_n dX5_undo_88 rfl ?_
        exact am_ireturn dX5_undo_89 rfl ⟨_, _, rfl, rfl, hw⟩

def wX5_log (a1 : Int32) (m0 : Mu) (K : Int32 → Prop) : Prop := ((a1 = (-1 : Int32) → K (m0 32 4)) ∧ (¬ a1 = (-1 : Int32) → wX5_in a1 (0 : Int32) ((m0 32 4) - (1 : Int32)) (fun r2 : Int32 => ((r2 = 0 → K (-11 : Int32)) ∧ (¬ r2 = 0 → (vp_in (((m0 32 4) - (1 : Int32)) - a1) 40 ∧ K (m0 5 ((((m0 32 4) - (1 : Int32)) - a1)).toNatClampNeg)))))))
set_option maxRecDepth 20000 in
theorem sX5_log {a1 : Int32} {m0 : Mu} {K : Int32 → Prop} (hw : wX5_log a1 m0 K) : am_Met mX5_log [.ref 0, .int a1] (fX5 m0) 0 0 (zP (fX5 m0) K) := by
  unfold wX5_log at hw
  refine am_Met.of2 (ls := [some (.ref 0), some (.int a1)]) pf_X5_log rfl rfl rfl rfl ?_
  refine am_iload_n dX5_log_0 rfl ?_
  refine am_iconst dX5_log_1 ic_m1 ?_
  refine am_icmp_ne 12 dX5_log_2 (by decide) (fun c1 => ?_) (fun c1 => ?_)
  · have hw := hw.1 c1
    refine am_aload_n dX5_log_5 rfl ?_
    refine am_getf dX5_log_6 fl_X5_81 rfl rfl ?_
    refine am_goto 44 dX5_log_9 (by decide) ?_
    exact am_ireturn dX5_log_44 rfl ⟨_, rfl, rfl, hw⟩
  · have hw := hw.2 c1
    refine am_iload_n dX5_log_12 rfl ?_
    refine am_iconst dX5_log_13 ic_0 ?_
    refine am_aload_n dX5_log_14 rfl ?_
    refine am_getf dX5_log_15 fl_X5_81 rfl rfl ?_
    refine am_iconst dX5_log_18 ic_1 ?_
    refine am_isub dX5_log_19 ?_
    refine am_stS dX5_log_20 q_X5_log_84 (sX5_in hw) rfl rfl rfl rfl (fun r2 hw => ?_)
    refine am_if_eq 42 dX5_log_23 (by decide) (fun c3 => ?_) (fun c3 => ?_)
    · have hw := hw.1 c3
      refine am_bipush dX5_log_42 bc_m11 ?_
      exact am_ireturn dX5_log_44 rfl ⟨_, rfl, rfl, hw⟩
    · have hw := hw.2 c3
      refine am_aload_n dX5_log_26 rfl ?_
      refine am_getf dX5_log_27 fl_X5_20 rfl rfl ?_
      refine am_aload_n dX5_log_30 rfl ?_
      refine am_getf dX5_log_31 fl_X5_81 rfl rfl ?_
      refine am_iconst dX5_log_34 ic_1 ?_
      refine am_isub dX5_log_35 ?_
      refine am_iload_n dX5_log_36 rfl ?_
      refine am_isub dX5_log_37 ?_
      refine am_iaload dX5_log_38 rfl hw.1 ?_
      have hw := hw.2
      refine am_goto 44 dX5_log_39 (by decide) ?_
      exact am_ireturn dX5_log_44 rfl ⟨_, rfl, rfl, hw⟩

def lpX5_layOrders_88 (K : Mu → Prop) (X0 : Int32 → Int32 → Int32 → Mu → Prop) (X1 : Int32 → Int32 → Int32 → Int32 → Int32 → Int32 → Mu → Prop) : Nat → Int32 → Int32 → Int32 → Int32 → Int32 → Mu → Prop
  | 0, _, _, _, _, _, _ => False
  | n + 1, v1, v2, v3, v5, v6, m0 => ((v1 ≤ v5 → (vp_in v3 64 ∧ ∀ m7 : Mu, m7 = mu_up m0 9 (v3).toNatClampNeg (m0 32 7) → ∀ m8 : Mu, m8 = mu_up m7 32 7 ((m7 32 7) + (1 : Int32)) → ∀ x9 : Int32, x9 = v3 + (1 : Int32) → X0 v1 v2 x9 m8)) ∧ (¬ v1 ≤ v5 → (vp_in (((4 : Int32) * (m0 32 7)) + v5) 24 ∧ ∀ m10 : Mu, m10 = mu_up m0 8 ((((4 : Int32) * (m0 32 7)) + v5)).toNatClampNeg (am_rem v6 (4 : Int32)) → ∀ x11 : Int32, x11 = v5 + (1 : Int32) → ∀ x12 : Int32, x12 = (v6 / (4 : Int32)) → lpX5_layOrders_88 K X0 X1 n v1 v2 v3 x11 x12 m10)))
set_option maxRecDepth 20000 in
theorem slpX5_layOrders_88 {K : Mu → Prop} {X0 : Int32 → Int32 → Int32 → Mu → Prop} {X1 : Int32 → Int32 → Int32 → Int32 → Int32 → Int32 → Mu → Prop} (hX0 : ∀ (a0 a1 a2 : Int32) (mm : Mu), X0 a0 a1 a2 mm → am_Ok mX5_layOrders none (zV fX5 K) 0 0 29 [some (.ref 0), some (.int a0), some (.int a1), some (.int a2), none, none, none] [] (fX5 mm)) (hX1 : ∀ (a0 a1 a2 a3 a4 a5 : Int32) (mm : Mu), X1 a0 a1 a2 a3 a4 a5 mm → am_Ok mX5_layOrders none (zV fX5 K) 0 0 43 [some (.ref 0), some (.int a0), some (.int a1), some (.int a2), some (.int a3), some (.int a4), some (.int a5)] [] (fX5 mm)) : ∀ (n : Nat) (v1 v2 v3 v5 v6 : Int32) (m0 : Mu), lpX5_layOrders_88 K X0 X1 n v1 v2 v3 v5 v6 m0 → am_Ok mX5_layOrders none (zV fX5 K) 0 0 88 [some (.ref 0), some (.int v1), some (.int v2), some (.int v3), none, some (.int v5), some (.int v6)] [] (fX5 m0) := by
  intro n
  induction n with
  | zero => intro v1 v2 v3 v5 v6 m0 hw; exact False.elim hw
  | succ n ih =>
    intro v1 v2 v3 v5 v6 m0 hw
    unfold lpX5_layOrders_88 at hw
    refine am_iload dX5_layOrders_88 rfl ?_
    refine am_iload_n dX5_layOrders_90 rfl ?_
    refine am_icmp_ge 124 dX5_layOrders_91 (by decide) (fun c6 => ?_) (fun c6 => ?_)
    · have hw := hw.1 c6
      refine am_aload_n dX5_layOrders_124 rfl ?_
      refine am_getf dX5_layOrders_125 fl_X5_30 rfl rfl ?_
      refine am_iload_n dX5_layOrders_128 rfl ?_
      refine am_aload_n dX5_layOrders_129 rfl ?_
      refine am_getf dX5_layOrders_130 fl_X5_146 rfl rfl ?_
      refine am_iastore' (F := fX5) (m := mu_up m0 9 (v3).toNatClampNeg (m0 32 7)) dX5_layOrders_133 rfl hw.1 rfl (fun m7 em7 => ?_)
      have hw := hw.2 m7 em7
      refine am_aload_n dX5_layOrders_134 rfl ?_
      refine am_dup dX5_layOrders_135 rfl ?_
      refine am_getf dX5_layOrders_136 fl_X5_146 rfl rfl ?_
      refine am_iconst dX5_layOrders_139 ic_1 ?_
      refine am_iadd dX5_layOrders_140 ?_
      refine am_putf' (F := fX5) (m := mu_up m7 32 7 ((m7 32 7) + (1 : Int32))) dX5_layOrders_141 fp_X5_146 rfl rfl rfl (fun m8 em8 => ?_)
      have hw := hw m8 em8
      refine am_iinc' (lf := fun y9 => [some (.ref 0), some (.int v1), some (.int v2), some (.int y9), none, some (.int v5), some (.int v6)]) dX5_layOrders_144 rfl rfl rfl ic_1 (fun _ => rfl) (fun x9 ex9 => ?_)
      have hw := hw x9 ex9
      refine am_goto 29 dX5_layOrders_147 (by decide) ?_
      refine am_forget (ls' := [some (.ref 0), some (.int v1), some (.int v2), some (.int x9), none, none, none]) [true, true, true, true, false, false, false] rfl ?_
      exact hX0 _ _ _ _ hw
    · have hw := hw.2 c6
      refine am_aload_n dX5_layOrders_94 rfl ?_
      refine am_getf dX5_layOrders_95 fl_X5_27 rfl rfl ?_
      refine am_iconst dX5_layOrders_98 ic_4 ?_
      refine am_aload_n dX5_layOrders_99 rfl ?_
      refine am_getf dX5_layOrders_100 fl_X5_146 rfl rfl ?_
      refine am_imul dX5_layOrders_103 ?_
      refine am_iload dX5_layOrders_104 rfl ?_
      refine am_iadd dX5_layOrders_106 ?_
      refine am_iload dX5_layOrders_107 rfl ?_
      refine am_iconst dX5_layOrders_109 ic_4 ?_
      refine am_irem' dX5_layOrders_110 nz_4 ?_
      refine am_iastore' (F := fX5) (m := mu_up m0 8 ((((4 : Int32) * (m0 32 7)) + v5)).toNatClampNeg (am_rem v6 (4 : Int32))) dX5_layOrders_111 rfl hw.1 rfl (fun m10 em10 => ?_)
      have hw := hw.2 m10 em10
      refine am_iinc' (lf := fun y9 => [some (.ref 0), some (.int v1), some (.int v2), some (.int v3), none, some (.int y9), some (.int v6)]) dX5_layOrders_112 rfl rfl rfl ic_1 (fun _ => rfl) (fun x11 ex11 => ?_)
      have hw := hw x11 ex11
      refine am_iload dX5_layOrders_115 rfl ?_
      refine am_iconst dX5_layOrders_117 ic_4 ?_
      refine am_idiv dX5_layOrders_118 nz_4 ?_
      refine am_top (fun x12 ex12 => ?_)
      have hw := hw x12 ex12
      refine am_istore' (ls' := [some (.ref 0), some (.int v1), some (.int v2), some (.int v3), none, some (.int x11), some (.int x12)]) dX5_layOrders_119 rfl rfl rfl ?_
      refine am_goto 88 dX5_layOrders_121 (by decide) ?_
      refine am_forget (ls' := [some (.ref 0), some (.int v1), some (.int v2), some (.int v3), none, some (.int x11), some (.int x12)]) [true, true, true, true, false, true, true] rfl ?_
      exact ih _ _ _ _ _ _ hw
def lpX5_layOrders_43 (K : Mu → Prop) (X0 : Int32 → Int32 → Int32 → Mu → Prop) : Nat → Int32 → Int32 → Int32 → Int32 → Int32 → Int32 → Mu → Prop
  | 0, _, _, _, _, _, _, _ => False
  | n + 1, v1, v2, v3, v4, v5, v6, m0 => ((v1 ≤ v5 → ((v4 = (((1 : Int32) <<< (v1 &&& 31)) - (1 : Int32)) → (∃ n13 : Nat, lpX5_layOrders_88 K (fun a0 a1 a2 mm => X0 a0 a1 a2 mm) (fun a0 a1 a2 a3 a4 a5 mm => lpX5_layOrders_43 K X0 n a0 a1 a2 a3 a4 a5 mm) n13 v1 v2 v3 (0 : Int32) v3 m0)) ∧ (¬ v4 = (((1 : Int32) <<< (v1 &&& 31)) - (1 : Int32)) → ∀ x14 : Int32, x14 = v3 + (1 : Int32) → X0 v1 v2 x14 m0))) ∧ (¬ v1 ≤ v5 → ∀ x15 : Int32, x15 = (v4 ||| ((1 : Int32) <<< ((am_rem v6 (4 : Int32)) &&& 31))) → ∀ x16 : Int32, x16 = v5 + (1 : Int32) → ∀ x17 : Int32, x17 = (v6 / (4 : Int32)) → lpX5_layOrders_43 K X0 n v1 v2 v3 x15 x16 x17 m0))
set_option maxRecDepth 20000 in
theorem slpX5_layOrders_43 {K : Mu → Prop} {X0 : Int32 → Int32 → Int32 → Mu → Prop} (hX0 : ∀ (a0 a1 a2 : Int32) (mm : Mu), X0 a0 a1 a2 mm → am_Ok mX5_layOrders none (zV fX5 K) 0 0 29 [some (.ref 0), some (.int a0), some (.int a1), some (.int a2), none, none, none] [] (fX5 mm)) : ∀ (n : Nat) (v1 v2 v3 v4 v5 v6 : Int32) (m0 : Mu), lpX5_layOrders_43 K X0 n v1 v2 v3 v4 v5 v6 m0 → am_Ok mX5_layOrders none (zV fX5 K) 0 0 43 [some (.ref 0), some (.int v1), some (.int v2), some (.int v3), some (.int v4), some (.int v5), some (.int v6)] [] (fX5 m0) := by
  intro n
  induction n with
  | zero => intro v1 v2 v3 v4 v5 v6 m0 hw; exact False.elim hw
  | succ n ih =>
    intro v1 v2 v3 v4 v5 v6 m0 hw
    unfold lpX5_layOrders_43 at hw
    refine am_iload dX5_layOrders_43 rfl ?_
    refine am_iload_n dX5_layOrders_45 rfl ?_
    refine am_icmp_ge 72 dX5_layOrders_46 (by decide) (fun c4 => ?_) (fun c4 => ?_)
    · have hw := hw.1 c4
      refine am_iload dX5_layOrders_72 rfl ?_
      refine am_iconst dX5_layOrders_74 ic_1 ?_
      refine am_iload_n dX5_layOrders_75 rfl ?_
      refine am_ishl dX5_layOrders_76 ?_
      refine am_iconst dX5_layOrders_77 ic_1 ?_
      refine am_isub dX5_layOrders_78 ?_
      refine am_icmp_ne 144 dX5_layOrders_79 (by decide) (fun c5 => ?_) (fun c5 => ?_)
      · have hw := hw.1 c5
        refine am_iconst dX5_layOrders_82 ic_0 ?_
        refine am_istore' (ls' := [some (.ref 0), some (.int v1), some (.int v2), some (.int v3), some (.int v4), some (.int (0 : Int32)), some (.int v6)]) dX5_layOrders_83 rfl rfl rfl ?_
        refine am_iload_n dX5_layOrders_85 rfl ?_
        refine am_istore' (ls' := [some (.ref 0), some (.int v1), some (.int v2), some (.int v3), some (.int v4), some (.int (0 : Int32)), some (.int v3)]) dX5_layOrders_86 rfl rfl rfl ?_
        obtain ⟨n13, hw⟩ := hw
        refine am_forget (ls' := [some (.ref 0), some (.int v1), some (.int v2), some (.int v3), none, some (.int (0 : Int32)), some (.int v3)]) [true, true, true, true, false, true, true] rfl ?_
        exact slpX5_layOrders_88 (fun a0 a1 a2 mm hq => hX0 a0 a1 a2 mm hq) (fun a0 a1 a2 a3 a4 a5 mm hq => ih a0 a1 a2 a3 a4 a5 mm hq) n13 _ _ _ _ _ _ hw
      · have hw := hw.2 c5
        refine am_iinc' (lf := fun y9 => [some (.ref 0), some (.int v1), some (.int v2), some (.int y9), some (.int v4), some (.int v5), some (.int v6)]) dX5_layOrders_144 rfl rfl rfl ic_1 (fun _ => rfl) (fun x14 ex14 => ?_)
        have hw := hw x14 ex14
        refine am_goto 29 dX5_layOrders_147 (by decide) ?_
        refine am_forget (ls' := [some (.ref 0), some (.int v1), some (.int v2), some (.int x14), none, none, none]) [true, true, true, true, false, false, false] rfl ?_
        exact hX0 _ _ _ _ hw
    · have hw := hw.2 c4
      refine am_iload dX5_layOrders_49 rfl ?_
      refine am_iconst dX5_layOrders_51 ic_1 ?_
      refine am_iload dX5_layOrders_52 rfl ?_
      refine am_iconst dX5_layOrders_54 ic_4 ?_
      refine am_irem' dX5_layOrders_55 nz_4 ?_
      refine am_ishl dX5_layOrders_56 ?_
      refine am_ior dX5_layOrders_57 ?_
      refine am_top (fun x15 ex15 => ?_)
      have hw := hw x15 ex15
      refine am_istore' (ls' := [some (.ref 0), some (.int v1), some (.int v2), some (.int v3), some (.int x15), some (.int v5), some (.int v6)]) dX5_layOrders_58 rfl rfl rfl ?_
      refine am_iinc' (lf := fun y9 => [some (.ref 0), some (.int v1), some (.int v2), some (.int v3), some (.int x15), some (.int y9), some (.int v6)]) dX5_layOrders_60 rfl rfl rfl ic_1 (fun _ => rfl) (fun x16 ex16 => ?_)
      have hw := hw x16 ex16
      refine am_iload dX5_layOrders_63 rfl ?_
      refine am_iconst dX5_layOrders_65 ic_4 ?_
      refine am_idiv dX5_layOrders_66 nz_4 ?_
      refine am_top (fun x17 ex17 => ?_)
      have hw := hw x17 ex17
      refine am_istore' (ls' := [some (.ref 0), some (.int v1), some (.int v2), some (.int v3), some (.int x15), some (.int x16), some (.int x17)]) dX5_layOrders_67 rfl rfl rfl ?_
      refine am_goto 43 dX5_layOrders_69 (by decide) ?_
      refine am_forget (ls' := [some (.ref 0), some (.int v1), some (.int v2), some (.int v3), some (.int x15), some (.int x16), some (.int x17)]) [true, true, true, true, true, true, true] rfl ?_
      exact ih _ _ _ _ _ _ _ hw
def lpX5_layOrders_29 (K : Mu → Prop)  : Nat → Int32 → Int32 → Int32 → Mu → Prop
  | 0, _, _, _, _ => False
  | n + 1, v1, v2, v3, m0 => ((v2 ≤ v3 → K m0) ∧ (¬ v2 ≤ v3 → (∃ n18 : Nat, lpX5_layOrders_43 K (fun a0 a1 a2 mm => lpX5_layOrders_29 K n a0 a1 a2 mm) n18 v1 v2 v3 (0 : Int32) (0 : Int32) v3 m0)))
set_option maxRecDepth 20000 in
theorem slpX5_layOrders_29 {K : Mu → Prop} : ∀ (n : Nat) (v1 v2 v3 : Int32) (m0 : Mu), lpX5_layOrders_29 K n v1 v2 v3 m0 → am_Ok mX5_layOrders none (zV fX5 K) 0 0 29 [some (.ref 0), some (.int v1), some (.int v2), some (.int v3), none, none, none] [] (fX5 m0) := by
  intro n
  induction n with
  | zero => intro v1 v2 v3 m0 hw; exact False.elim hw
  | succ n ih =>
    intro v1 v2 v3 m0 hw
    unfold lpX5_layOrders_29 at hw
    refine am_iload_n dX5_layOrders_29 rfl ?_
    refine am_iload_n dX5_layOrders_30 rfl ?_
    refine am_icmp_ge 150 dX5_layOrders_31 (by decide) (fun c3 => ?_) (fun c3 => ?_)
    · have hw := hw.1 c3
      exact am_vreturn dX5_layOrders_150 rfl ⟨_, rfl, rfl, hw⟩
    · have hw := hw.2 c3
      refine am_iconst dX5_layOrders_34 ic_0 ?_
      refine am_istore' (ls' := [some (.ref 0), some (.int v1), some (.int v2), some (.int v3), some (.int (0 : Int32)), none, none]) dX5_layOrders_35 rfl rfl rfl ?_
      refine am_iconst dX5_layOrders_37 ic_0 ?_
      refine am_istore' (ls' := [some (.ref 0), some (.int v1), some (.int v2), some (.int v3), some (.int (0 : Int32)), some (.int (0 : Int32)), none]) dX5_layOrders_38 rfl rfl rfl ?_
      refine am_iload_n dX5_layOrders_40 rfl ?_
      refine am_istore' (ls' := [some (.ref 0), some (.int v1), some (.int v2), some (.int v3), some (.int (0 : Int32)), some (.int (0 : Int32)), some (.int v3)]) dX5_layOrders_41 rfl rfl rfl ?_
      obtain ⟨n18, hw⟩ := hw
      refine am_forget (ls' := [some (.ref 0), some (.int v1), some (.int v2), some (.int v3), some (.int (0 : Int32)), some (.int (0 : Int32)), some (.int v3)]) [true, true, true, true, true, true, true] rfl ?_
      exact slpX5_layOrders_43 (fun a0 a1 a2 mm hq => ih a0 a1 a2 mm hq) n18 _ _ _ _ _ _ _ hw
def wX5_layOrders (a1 : Int32) (m0 : Mu) (K : Mu → Prop) : Prop := ∀ m1 : Mu, m1 = mu_up m0 32 7 (0 : Int32) → ((a1 = (1 : Int32) → (∃ n19 : Nat, lpX5_layOrders_29 K n19 a1 (4 : Int32) (0 : Int32) m1)) ∧ (¬ a1 = (1 : Int32) → ((a1 = (2 : Int32) → (∃ n21 : Nat, lpX5_layOrders_29 K n21 a1 (16 : Int32) (0 : Int32) m1)) ∧ (¬ a1 = (2 : Int32) → (∃ n22 : Nat, lpX5_layOrders_29 K n22 a1 (64 : Int32) (0 : Int32) m1)))))
set_option maxRecDepth 20000 in
theorem sX5_layOrders {a1 : Int32} {m0 : Mu} {K : Mu → Prop} (hw : wX5_layOrders a1 m0 K) : am_Met mX5_layOrders [.ref 0, .int a1] (fX5 m0) 0 0 (zV fX5 K) := by
  unfold wX5_layOrders at hw
  refine am_Met.of2 (ls := [some (.ref 0), some (.int a1), none, none, none, none, none]) pf_X5_layOrders rfl rfl rfl rfl ?_
  refine am_aload_n dX5_layOrders_0 rfl ?_
  refine am_iconst dX5_layOrders_1 ic_0 ?_
  refine am_putf' (F := fX5) (m := mu_up m0 32 7 (0 : Int32)) dX5_layOrders_2 fp_X5_146 rfl rfl rfl (fun m1 em1 => ?_)
  have hw := hw m1 em1
  refine am_iload_n dX5_layOrders_5 rfl ?_
  refine am_iconst dX5_layOrders_6 ic_1 ?_
  refine am_icmp_ne 14 dX5_layOrders_7 (by decide) (fun c2 => ?_) (fun c2 => ?_)
  · have hw := hw.1 c2
    refine am_iconst dX5_layOrders_10 ic_4 ?_
    refine am_goto 26 dX5_layOrders_11 (by decide) ?_
    refine am_istore_n' (ls' := [some (.ref 0), some (.int a1), some (.int (4 : Int32)), none, none, none, none]) dX5_layOrders_26 rfl rfl rfl ?_
    refine am_iconst dX5_layOrders_27 ic_0 ?_
    refine am_istore_n' (ls' := [some (.ref 0), some (.int a1), some (.int (4 : Int32)), some (.int (0 : Int32)), none, none, none]) dX5_layOrders_28 rfl rfl rfl ?_
    obtain ⟨n19, hw⟩ := hw
    refine am_forget (ls' := [some (.ref 0), some (.int a1), some (.int (4 : Int32)), some (.int (0 : Int32)), none, none, none]) [true, true, true, true, false, false, false] rfl ?_
    exact slpX5_layOrders_29  n19 _ _ _ _ hw
  · have hw := hw.2 c2
    refine am_iload_n dX5_layOrders_14 rfl ?_
    refine am_iconst dX5_layOrders_15 ic_2 ?_
    refine am_icmp_ne 24 dX5_layOrders_16 (by decide) (fun c20 => ?_) (fun c20 => ?_)
    · have hw := hw.1 c20
      refine am_bipush dX5_layOrders_19 bc_16 ?_
      refine am_goto 26 dX5_layOrders_21 (by decide) ?_
      refine am_istore_n' (ls' := [some (.ref 0), some (.int a1), some (.int (16 : Int32)), none, none, none, none]) dX5_layOrders_26 rfl rfl rfl ?_
      refine am_iconst dX5_layOrders_27 ic_0 ?_
      refine am_istore_n' (ls' := [some (.ref 0), some (.int a1), some (.int (16 : Int32)), some (.int (0 : Int32)), none, none, none]) dX5_layOrders_28 rfl rfl rfl ?_
      obtain ⟨n21, hw⟩ := hw
      refine am_forget (ls' := [some (.ref 0), some (.int a1), some (.int (16 : Int32)), some (.int (0 : Int32)), none, none, none]) [true, true, true, true, false, false, false] rfl ?_
      exact slpX5_layOrders_29  n21 _ _ _ _ hw
    · have hw := hw.2 c20
      refine am_bipush dX5_layOrders_24 bc_64 ?_
      refine am_istore_n' (ls' := [some (.ref 0), some (.int a1), some (.int (64 : Int32)), none, none, none, none]) dX5_layOrders_26 rfl rfl rfl ?_
      refine am_iconst dX5_layOrders_27 ic_0 ?_
      refine am_istore_n' (ls' := [some (.ref 0), some (.int a1), some (.int (64 : Int32)), some (.int (0 : Int32)), none, none, none]) dX5_layOrders_28 rfl rfl rfl ?_
      obtain ⟨n22, hw⟩ := hw
      refine am_forget (ls' := [some (.ref 0), some (.int a1), some (.int (64 : Int32)), some (.int (0 : Int32)), none, none, none]) [true, true, true, true, false, false, false] rfl ?_
      exact slpX5_layOrders_29  n22 _ _ _ _ hw

def lpX5_layWays_59 (K : Mu → Prop) (X0 : Int32 → Int32 → Mu → Prop) (X1 : Int32 → Int32 → Int32 → Int32 → Int32 → Mu → Prop) : Nat → Int32 → Int32 → Int32 → Int32 → Mu → Prop
  | 0, _, _, _, _, _ => False
  | n + 1, v1, v2, v4, v5, m0 => (((6 : Int32) ≤ v4 → (vp_in v2 15625 ∧ ∀ m6 : Mu, m6 = mu_up m0 12 (v2).toNatClampNeg (m0 32 10) → ∀ m7 : Mu, m7 = mu_up m6 32 10 ((m6 32 10) + (1 : Int32)) → ∀ x8 : Int32, x8 = v2 + (1 : Int32) → X0 v1 x8 m7)) ∧ (¬ (6 : Int32) ≤ v4 → (vp_in (((6 : Int32) * (m0 32 10)) + v4) 336 ∧ ∀ m9 : Mu, m9 = mu_up m0 11 ((((6 : Int32) * (m0 32 10)) + v4)).toNatClampNeg (am_rem v5 (5 : Int32)) → ∀ x10 : Int32, x10 = v4 + (1 : Int32) → ∀ x11 : Int32, x11 = (v5 / (5 : Int32)) → lpX5_layWays_59 K X0 X1 n v1 v2 x10 x11 m9)))
set_option maxRecDepth 20000 in
theorem slpX5_layWays_59 {K : Mu → Prop} {X0 : Int32 → Int32 → Mu → Prop} {X1 : Int32 → Int32 → Int32 → Int32 → Int32 → Mu → Prop} (hX0 : ∀ (a0 a1 : Int32) (mm : Mu), X0 a0 a1 mm → am_Ok mX5_layWays none (zV fX5 K) 0 0 7 [some (.ref 0), some (.int a0), some (.int a1), none, none, none] [] (fX5 mm)) (hX1 : ∀ (a0 a1 a2 a3 a4 : Int32) (mm : Mu), X1 a0 a1 a2 a3 a4 mm → am_Ok mX5_layWays none (zV fX5 K) 0 0 22 [some (.ref 0), some (.int a0), some (.int a1), some (.int a2), some (.int a3), some (.int a4)] [] (fX5 mm)) : ∀ (n : Nat) (v1 v2 v4 v5 : Int32) (m0 : Mu), lpX5_layWays_59 K X0 X1 n v1 v2 v4 v5 m0 → am_Ok mX5_layWays none (zV fX5 K) 0 0 59 [some (.ref 0), some (.int v1), some (.int v2), none, some (.int v4), some (.int v5)] [] (fX5 m0) := by
  intro n
  induction n with
  | zero => intro v1 v2 v4 v5 m0 hw; exact False.elim hw
  | succ n ih =>
    intro v1 v2 v4 v5 m0 hw
    unfold lpX5_layWays_59 at hw
    refine am_iload dX5_layWays_59 rfl ?_
    refine am_bipush dX5_layWays_61 bc_6 ?_
    refine am_icmp_ge 97 dX5_layWays_63 (by decide) (fun c5 => ?_) (fun c5 => ?_)
    · have hw := hw.1 c5
      refine am_aload_n dX5_layWays_97 rfl ?_
      refine am_getf dX5_layWays_98 fl_X5_36 rfl rfl ?_
      refine am_iload_n dX5_layWays_101 rfl ?_
      refine am_aload_n dX5_layWays_102 rfl ?_
      refine am_getf dX5_layWays_103 fl_X5_149 rfl rfl ?_
      refine am_iastore' (F := fX5) (m := mu_up m0 12 (v2).toNatClampNeg (m0 32 10)) dX5_layWays_106 rfl hw.1 rfl (fun m6 em6 => ?_)
      have hw := hw.2 m6 em6
      refine am_aload_n dX5_layWays_107 rfl ?_
      refine am_dup dX5_layWays_108 rfl ?_
      refine am_getf dX5_layWays_109 fl_X5_149 rfl rfl ?_
      refine am_iconst dX5_layWays_112 ic_1 ?_
      refine am_iadd dX5_layWays_113 ?_
      refine am_putf' (F := fX5) (m := mu_up m6 32 10 ((m6 32 10) + (1 : Int32))) dX5_layWays_114 fp_X5_149 rfl rfl rfl (fun m7 em7 => ?_)
      have hw := hw m7 em7
      refine am_iinc' (lf := fun y9 => [some (.ref 0), some (.int v1), some (.int y9), none, some (.int v4), some (.int v5)]) dX5_layWays_117 rfl rfl rfl ic_1 (fun _ => rfl) (fun x8 ex8 => ?_)
      have hw := hw x8 ex8
      refine am_goto 7 dX5_layWays_120 (by decide) ?_
      refine am_forget (ls' := [some (.ref 0), some (.int v1), some (.int x8), none, none, none]) [true, true, true, false, false, false] rfl ?_
      exact hX0 _ _ _ hw
    · have hw := hw.2 c5
      refine am_aload_n dX5_layWays_66 rfl ?_
      refine am_getf dX5_layWays_67 fl_X5_33 rfl rfl ?_
      refine am_bipush dX5_layWays_70 bc_6 ?_
      refine am_aload_n dX5_layWays_72 rfl ?_
      refine am_getf dX5_layWays_73 fl_X5_149 rfl rfl ?_
      refine am_imul dX5_layWays_76 ?_
      refine am_iload dX5_layWays_77 rfl ?_
      refine am_iadd dX5_layWays_79 ?_
      refine am_iload dX5_layWays_80 rfl ?_
      refine am_iconst dX5_layWays_82 ic_5 ?_
      refine am_irem' dX5_layWays_83 nz_5 ?_
      refine am_iastore' (F := fX5) (m := mu_up m0 11 ((((6 : Int32) * (m0 32 10)) + v4)).toNatClampNeg (am_rem v5 (5 : Int32))) dX5_layWays_84 rfl hw.1 rfl (fun m9 em9 => ?_)
      have hw := hw.2 m9 em9
      refine am_iinc' (lf := fun y9 => [some (.ref 0), some (.int v1), some (.int v2), none, some (.int y9), some (.int v5)]) dX5_layWays_85 rfl rfl rfl ic_1 (fun _ => rfl) (fun x10 ex10 => ?_)
      have hw := hw x10 ex10
      refine am_iload dX5_layWays_88 rfl ?_
      refine am_iconst dX5_layWays_90 ic_5 ?_
      refine am_idiv dX5_layWays_91 nz_5 ?_
      refine am_top (fun x11 ex11 => ?_)
      have hw := hw x11 ex11
      refine am_istore' (ls' := [some (.ref 0), some (.int v1), some (.int v2), none, some (.int x10), some (.int x11)]) dX5_layWays_92 rfl rfl rfl ?_
      refine am_goto 59 dX5_layWays_94 (by decide) ?_
      refine am_forget (ls' := [some (.ref 0), some (.int v1), some (.int v2), none, some (.int x10), some (.int x11)]) [true, true, true, false, true, true] rfl ?_
      exact ih _ _ _ _ _ hw
def lpX5_layWays_22 (K : Mu → Prop) (X0 : Int32 → Int32 → Mu → Prop) : Nat → Int32 → Int32 → Int32 → Int32 → Int32 → Mu → Prop
  | 0, _, _, _, _, _, _ => False
  | n + 1, v1, v2, v3, v4, v5, m0 => (((6 : Int32) ≤ v4 → ((v3 = v1 → (∃ n12 : Nat, lpX5_layWays_59 K (fun a0 a1 mm => X0 a0 a1 mm) (fun a0 a1 a2 a3 a4 mm => lpX5_layWays_22 K X0 n a0 a1 a2 a3 a4 mm) n12 v1 v2 (0 : Int32) v2 m0)) ∧ (¬ v3 = v1 → ∀ x13 : Int32, x13 = v2 + (1 : Int32) → X0 v1 x13 m0))) ∧ (¬ (6 : Int32) ≤ v4 → ∀ x14 : Int32, x14 = (v3 + (am_rem v5 (5 : Int32))) → ∀ x15 : Int32, x15 = v4 + (1 : Int32) → ∀ x16 : Int32, x16 = (v5 / (5 : Int32)) → lpX5_layWays_22 K X0 n v1 v2 x14 x15 x16 m0))
set_option maxRecDepth 20000 in
theorem slpX5_layWays_22 {K : Mu → Prop} {X0 : Int32 → Int32 → Mu → Prop} (hX0 : ∀ (a0 a1 : Int32) (mm : Mu), X0 a0 a1 mm → am_Ok mX5_layWays none (zV fX5 K) 0 0 7 [some (.ref 0), some (.int a0), some (.int a1), none, none, none] [] (fX5 mm)) : ∀ (n : Nat) (v1 v2 v3 v4 v5 : Int32) (m0 : Mu), lpX5_layWays_22 K X0 n v1 v2 v3 v4 v5 m0 → am_Ok mX5_layWays none (zV fX5 K) 0 0 22 [some (.ref 0), some (.int v1), some (.int v2), some (.int v3), some (.int v4), some (.int v5)] [] (fX5 m0) := by
  intro n
  induction n with
  | zero => intro v1 v2 v3 v4 v5 m0 hw; exact False.elim hw
  | succ n ih =>
    intro v1 v2 v3 v4 v5 m0 hw
    unfold lpX5_layWays_22 at hw
    refine am_iload dX5_layWays_22 rfl ?_
    refine am_bipush dX5_layWays_24 bc_6 ?_
    refine am_icmp_ge 48 dX5_layWays_26 (by decide) (fun c3 => ?_) (fun c3 => ?_)
    · have hw := hw.1 c3
      refine am_iload_n dX5_layWays_48 rfl ?_
      refine am_iload_n dX5_layWays_49 rfl ?_
      refine am_icmp_ne 117 dX5_layWays_50 (by decide) (fun c4 => ?_) (fun c4 => ?_)
      · have hw := hw.1 c4
        refine am_iconst dX5_layWays_53 ic_0 ?_
        refine am_istore' (ls' := [some (.ref 0), some (.int v1), some (.int v2), some (.int v3), some (.int (0 : Int32)), some (.int v5)]) dX5_layWays_54 rfl rfl rfl ?_
        refine am_iload_n dX5_layWays_56 rfl ?_
        refine am_istore' (ls' := [some (.ref 0), some (.int v1), some (.int v2), some (.int v3), some (.int (0 : Int32)), some (.int v2)]) dX5_layWays_57 rfl rfl rfl ?_
        obtain ⟨n12, hw⟩ := hw
        refine am_forget (ls' := [some (.ref 0), some (.int v1), some (.int v2), none, some (.int (0 : Int32)), some (.int v2)]) [true, true, true, false, true, true] rfl ?_
        exact slpX5_layWays_59 (fun a0 a1 mm hq => hX0 a0 a1 mm hq) (fun a0 a1 a2 a3 a4 mm hq => ih a0 a1 a2 a3 a4 mm hq) n12 _ _ _ _ _ hw
      · have hw := hw.2 c4
        refine am_iinc' (lf := fun y9 => [some (.ref 0), some (.int v1), some (.int y9), some (.int v3), some (.int v4), some (.int v5)]) dX5_layWays_117 rfl rfl rfl ic_1 (fun _ => rfl) (fun x13 ex13 => ?_)
        have hw := hw x13 ex13
        refine am_goto 7 dX5_layWays_120 (by decide) ?_
        refine am_forget (ls' := [some (.ref 0), some (.int v1), some (.int x13), none, none, none]) [true, true, true, false, false, false] rfl ?_
        exact hX0 _ _ _ hw
    · have hw := hw.2 c3
      refine am_iload_n dX5_layWays_29 rfl ?_
      refine am_iload dX5_layWays_30 rfl ?_
      refine am_iconst dX5_layWays_32 ic_5 ?_
      refine am_irem' dX5_layWays_33 nz_5 ?_
      refine am_iadd dX5_layWays_34 ?_
      refine am_top (fun x14 ex14 => ?_)
      have hw := hw x14 ex14
      refine am_istore_n' (ls' := [some (.ref 0), some (.int v1), some (.int v2), some (.int x14), some (.int v4), some (.int v5)]) dX5_layWays_35 rfl rfl rfl ?_
      refine am_iinc' (lf := fun y9 => [some (.ref 0), some (.int v1), some (.int v2), some (.int x14), some (.int y9), some (.int v5)]) dX5_layWays_36 rfl rfl rfl ic_1 (fun _ => rfl) (fun x15 ex15 => ?_)
      have hw := hw x15 ex15
      refine am_iload dX5_layWays_39 rfl ?_
      refine am_iconst dX5_layWays_41 ic_5 ?_
      refine am_idiv dX5_layWays_42 nz_5 ?_
      refine am_top (fun x16 ex16 => ?_)
      have hw := hw x16 ex16
      refine am_istore' (ls' := [some (.ref 0), some (.int v1), some (.int v2), some (.int x14), some (.int x15), some (.int x16)]) dX5_layWays_43 rfl rfl rfl ?_
      refine am_goto 22 dX5_layWays_45 (by decide) ?_
      refine am_forget (ls' := [some (.ref 0), some (.int v1), some (.int v2), some (.int x14), some (.int x15), some (.int x16)]) [true, true, true, true, true, true] rfl ?_
      exact ih _ _ _ _ _ _ hw
def lpX5_layWays_7 (K : Mu → Prop)  : Nat → Int32 → Int32 → Mu → Prop
  | 0, _, _, _ => False
  | n + 1, v1, v2, m0 => (((15625 : Int32) ≤ v2 → K m0) ∧ (¬ (15625 : Int32) ≤ v2 → (∃ n17 : Nat, lpX5_layWays_22 K (fun a0 a1 mm => lpX5_layWays_7 K n a0 a1 mm) n17 v1 v2 (0 : Int32) (0 : Int32) v2 m0)))
set_option maxRecDepth 20000 in
theorem slpX5_layWays_7 {K : Mu → Prop} : ∀ (n : Nat) (v1 v2 : Int32) (m0 : Mu), lpX5_layWays_7 K n v1 v2 m0 → am_Ok mX5_layWays none (zV fX5 K) 0 0 7 [some (.ref 0), some (.int v1), some (.int v2), none, none, none] [] (fX5 m0) := by
  intro n
  induction n with
  | zero => intro v1 v2 m0 hw; exact False.elim hw
  | succ n ih =>
    intro v1 v2 m0 hw
    unfold lpX5_layWays_7 at hw
    refine am_iload_n dX5_layWays_7 rfl ?_
    refine am_sipush dX5_layWays_8 sc_15625 ?_
    refine am_icmp_ge 123 dX5_layWays_11 (by decide) (fun c2 => ?_) (fun c2 => ?_)
    · have hw := hw.1 c2
      exact am_vreturn dX5_layWays_123 rfl ⟨_, rfl, rfl, hw⟩
    · have hw := hw.2 c2
      refine am_iconst dX5_layWays_14 ic_0 ?_
      refine am_istore_n' (ls' := [some (.ref 0), some (.int v1), some (.int v2), some (.int (0 : Int32)), none, none]) dX5_layWays_15 rfl rfl rfl ?_
      refine am_iconst dX5_layWays_16 ic_0 ?_
      refine am_istore' (ls' := [some (.ref 0), some (.int v1), some (.int v2), some (.int (0 : Int32)), some (.int (0 : Int32)), none]) dX5_layWays_17 rfl rfl rfl ?_
      refine am_iload_n dX5_layWays_19 rfl ?_
      refine am_istore' (ls' := [some (.ref 0), some (.int v1), some (.int v2), some (.int (0 : Int32)), some (.int (0 : Int32)), some (.int v2)]) dX5_layWays_20 rfl rfl rfl ?_
      obtain ⟨n17, hw⟩ := hw
      refine am_forget (ls' := [some (.ref 0), some (.int v1), some (.int v2), some (.int (0 : Int32)), some (.int (0 : Int32)), some (.int v2)]) [true, true, true, true, true, true] rfl ?_
      exact slpX5_layWays_22 (fun a0 a1 mm hq => ih a0 a1 mm hq) n17 _ _ _ _ _ _ hw
def wX5_layWays (a1 : Int32) (m0 : Mu) (K : Mu → Prop) : Prop := ∀ m1 : Mu, m1 = mu_up m0 32 10 (0 : Int32) → (∃ n18 : Nat, lpX5_layWays_7 K n18 a1 (0 : Int32) m1)
set_option maxRecDepth 20000 in
theorem sX5_layWays {a1 : Int32} {m0 : Mu} {K : Mu → Prop} (hw : wX5_layWays a1 m0 K) : am_Met mX5_layWays [.ref 0, .int a1] (fX5 m0) 0 0 (zV fX5 K) := by
  unfold wX5_layWays at hw
  refine am_Met.of2 (ls := [some (.ref 0), some (.int a1), none, none, none, none]) pf_X5_layWays rfl rfl rfl rfl ?_
  refine am_aload_n dX5_layWays_0 rfl ?_
  refine am_iconst dX5_layWays_1 ic_0 ?_
  refine am_putf' (F := fX5) (m := mu_up m0 32 10 (0 : Int32)) dX5_layWays_2 fp_X5_149 rfl rfl rfl (fun m1 em1 => ?_)
  have hw := hw m1 em1
  refine am_iconst dX5_layWays_5 ic_0 ?_
  refine am_istore_n' (ls' := [some (.ref 0), some (.int a1), some (.int (0 : Int32)), none, none, none]) dX5_layWays_6 rfl rfl rfl ?_
  obtain ⟨n18, hw⟩ := hw
  refine am_forget (ls' := [some (.ref 0), some (.int a1), some (.int (0 : Int32)), none, none, none]) [true, true, true, false, false, false] rfl ?_
  exact slpX5_layWays_7  n18 _ _ _ hw

def lpX5_layRows_23 (K : Mu → Prop)  : Nat → Int32 → Mu → Prop
  | 0, _, _ => False
  | n + 1, v1, m0 => (((12 : Int32) ≤ v1 → K m0) ∧ (¬ (12 : Int32) ≤ v1 → (vp_in v1 13 ∧ ∀ m5 : Mu, m5 = mu_up m0 15 (v1).toNatClampNeg (0 : Int32) → wX5_isTrack v1 m5 (fun r6 : Int32 => ((r6 = 0 → ∀ x8 : Int32, x8 = v1 + (1 : Int32) → lpX5_layRows_23 K n x8 m5) ∧ (¬ r6 = 0 → ∀ m9 : Mu, m9 = mu_up m5 32 13 ((m5 32 13) + (1 : Int32)) → (vp_in v1 13 ∧ ∀ m10 : Mu, m10 = mu_up m9 15 (v1).toNatClampNeg (m9 32 13) → (vp_in (m10 32 13) 6 ∧ ∀ m11 : Mu, m11 = mu_up m10 14 ((m10 32 13)).toNatClampNeg v1 → ∀ x12 : Int32, x12 = v1 + (1 : Int32) → lpX5_layRows_23 K n x12 m11))))))))
set_option maxRecDepth 20000 in
theorem slpX5_layRows_23 {K : Mu → Prop} : ∀ (n : Nat) (v1 : Int32) (m0 : Mu), lpX5_layRows_23 K n v1 m0 → am_Ok mX5_layRows none (zV fX5 K) 0 0 23 [some (.ref 0), some (.int v1)] [] (fX5 m0) := by
  intro n
  induction n with
  | zero => intro v1 m0 hw; exact False.elim hw
  | succ n ih =>
    intro v1 m0 hw
    unfold lpX5_layRows_23 at hw
    refine am_iload_n dX5_layRows_23 rfl ?_
    refine am_bipush dX5_layRows_24 bc_12 ?_
    refine am_icmp_ge 80 dX5_layRows_26 (by decide) (fun c4 => ?_) (fun c4 => ?_)
    · have hw := hw.1 c4
      exact am_vreturn dX5_layRows_80 rfl ⟨_, rfl, rfl, hw⟩
    · have hw := hw.2 c4
      refine am_aload_n dX5_layRows_29 rfl ?_
      refine am_getf dX5_layRows_30 fl_X5_42 rfl rfl ?_
      refine am_iload_n dX5_layRows_33 rfl ?_
      refine am_iconst dX5_layRows_34 ic_0 ?_
      refine am_iastore' (F := fX5) (m := mu_up m0 15 (v1).toNatClampNeg (0 : Int32)) dX5_layRows_35 rfl hw.1 rfl (fun m5 em5 => ?_)
      have hw := hw.2 m5 em5
      refine am_aload_n dX5_layRows_36 rfl ?_
      refine am_iload_n dX5_layRows_37 rfl ?_
      refine am_selfP fam_X5 rfl dX5_layRows_38 q_X5_layRows_103 rfl (sX5_isTrack hw) rfl rfl rfl rfl rfl (fun r6 hw => ?_)
      refine am_if_eq 74 dX5_layRows_41 (by decide) (fun c7 => ?_) (fun c7 => ?_)
      · have hw := hw.1 c7
        refine am_iinc' (lf := fun y9 => [some (.ref 0), some (.int y9)]) dX5_layRows_74 rfl rfl rfl ic_1 (fun _ => rfl) (fun x8 ex8 => ?_)
        have hw := hw x8 ex8
        refine am_goto 23 dX5_layRows_77 (by decide) ?_
        refine am_forget (ls' := [some (.ref 0), some (.int x8)]) [true, true] rfl ?_
        exact ih _ _ hw
      · have hw := hw.2 c7
        refine am_aload_n dX5_layRows_44 rfl ?_
        refine am_dup dX5_layRows_45 rfl ?_
        refine am_getf dX5_layRows_46 fl_X5_152 rfl rfl ?_
        refine am_iconst dX5_layRows_49 ic_1 ?_
        refine am_iadd dX5_layRows_50 ?_
        refine am_putf' (F := fX5) (m := mu_up m5 32 13 ((m5 32 13) + (1 : Int32))) dX5_layRows_51 fp_X5_152 rfl rfl rfl (fun m9 em9 => ?_)
        have hw := hw m9 em9
        refine am_aload_n dX5_layRows_54 rfl ?_
        refine am_getf dX5_layRows_55 fl_X5_42 rfl rfl ?_
        refine am_iload_n dX5_layRows_58 rfl ?_
        refine am_aload_n dX5_layRows_59 rfl ?_
        refine am_getf dX5_layRows_60 fl_X5_152 rfl rfl ?_
        refine am_iastore' (F := fX5) (m := mu_up m9 15 (v1).toNatClampNeg (m9 32 13)) dX5_layRows_63 rfl hw.1 rfl (fun m10 em10 => ?_)
        have hw := hw.2 m10 em10
        refine am_aload_n dX5_layRows_64 rfl ?_
        refine am_getf dX5_layRows_65 fl_X5_39 rfl rfl ?_
        refine am_aload_n dX5_layRows_68 rfl ?_
        refine am_getf dX5_layRows_69 fl_X5_152 rfl rfl ?_
        refine am_iload_n dX5_layRows_72 rfl ?_
        refine am_iastore' (F := fX5) (m := mu_up m10 14 ((m10 32 13)).toNatClampNeg v1) dX5_layRows_73 rfl hw.1 rfl (fun m11 em11 => ?_)
        have hw := hw.2 m11 em11
        refine am_iinc' (lf := fun y9 => [some (.ref 0), some (.int y9)]) dX5_layRows_74 rfl rfl rfl ic_1 (fun _ => rfl) (fun x12 ex12 => ?_)
        have hw := hw x12 ex12
        refine am_goto 23 dX5_layRows_77 (by decide) ?_
        refine am_forget (ls' := [some (.ref 0), some (.int x12)]) [true, true] rfl ?_
        exact ih _ _ hw
def wX5_layRows (m0 : Mu) (K : Mu → Prop) : Prop := ∀ m1 : Mu, m1 = mu_up m0 32 13 (0 : Int32) → (vp_in (0 : Int32) 6 ∧ ∀ m2 : Mu, m2 = mu_up m1 14 ((0 : Int32)).toNatClampNeg (12 : Int32) → (vp_in (12 : Int32) 13 ∧ ∀ m3 : Mu, m3 = mu_up m2 15 ((12 : Int32)).toNatClampNeg (0 : Int32) → (∃ n13 : Nat, lpX5_layRows_23 K n13 (0 : Int32) m3)))
set_option maxRecDepth 20000 in
theorem sX5_layRows {m0 : Mu} {K : Mu → Prop} (hw : wX5_layRows m0 K) : am_Met mX5_layRows [.ref 0] (fX5 m0) 0 0 (zV fX5 K) := by
  unfold wX5_layRows at hw
  refine am_Met.of2 (ls := [some (.ref 0), none]) pf_X5_layRows rfl rfl rfl rfl ?_
  refine am_aload_n dX5_layRows_0 rfl ?_
  refine am_iconst dX5_layRows_1 ic_0 ?_
  refine am_putf' (F := fX5) (m := mu_up m0 32 13 (0 : Int32)) dX5_layRows_2 fp_X5_152 rfl rfl rfl (fun m1 em1 => ?_)
  have hw := hw m1 em1
  refine am_aload_n dX5_layRows_5 rfl ?_
  refine am_getf dX5_layRows_6 fl_X5_39 rfl rfl ?_
  refine am_iconst dX5_layRows_9 ic_0 ?_
  refine am_bipush dX5_layRows_10 bc_12 ?_
  refine am_iastore' (F := fX5) (m := mu_up m1 14 ((0 : Int32)).toNatClampNeg (12 : Int32)) dX5_layRows_12 rfl hw.1 rfl (fun m2 em2 => ?_)
  have hw := hw.2 m2 em2
  refine am_aload_n dX5_layRows_13 rfl ?_
  refine am_getf dX5_layRows_14 fl_X5_42 rfl rfl ?_
  refine am_bipush dX5_layRows_17 bc_12 ?_
  refine am_iconst dX5_layRows_19 ic_0 ?_
  refine am_iastore' (F := fX5) (m := mu_up m2 15 ((12 : Int32)).toNatClampNeg (0 : Int32)) dX5_layRows_20 rfl hw.1 rfl (fun m3 em3 => ?_)
  have hw := hw.2 m3 em3
  refine am_iconst dX5_layRows_21 ic_0 ?_
  refine am_istore_n' (ls' := [some (.ref 0), some (.int (0 : Int32))]) dX5_layRows_22 rfl rfl rfl ?_
  obtain ⟨n13, hw⟩ := hw
  refine am_forget (ls' := [some (.ref 0), some (.int (0 : Int32))]) [true, true] rfl ?_
  exact slpX5_layRows_23  n13 _ _ hw

def lpX5_numberOf_22 (m0 : Mu) (K : Int32 → Prop) (X0 : Int32 → Int32 → Int32 → Int32 → Int32 → Prop) : Nat → Int32 → Int32 → Int32 → Int32 → Int32 → Int32 → Prop
  | 0, _, _, _, _, _, _ => False
  | n + 1, v1, v2, v3, v4, v5, v6 => (vp_in v5 6 ∧ (((m0 17 (v5).toNatClampNeg) ≤ v6 → (vp_in v5 6 ∧ ∀ x3 : Int32, x3 = (v3 + (v4 * (m0 17 (v5).toNatClampNeg))) → ∀ x4 : Int32, x4 = (v4 * (5 : Int32)) → ∀ x5 : Int32, x5 = v5 + (1 : Int32) → X0 v1 v2 x3 x4 x5)) ∧ (¬ (m0 17 (v5).toNatClampNeg) ≤ v6 → (vp_in (((4 : Int32) * v5) + v6) 24 ∧ ∀ x6 : Int32, x6 = (v1 + (v2 * (m0 16 ((((4 : Int32) * v5) + v6)).toNatClampNeg))) → ∀ x7 : Int32, x7 = (v2 * (4 : Int32)) → ∀ x8 : Int32, x8 = v6 + (1 : Int32) → lpX5_numberOf_22 m0 K X0 n x6 x7 v3 v4 v5 x8))))
set_option maxRecDepth 20000 in
theorem slpX5_numberOf_22 {m0 : Mu} {K : Int32 → Prop} {X0 : Int32 → Int32 → Int32 → Int32 → Int32 → Prop} (hX0 : ∀ (a0 a1 a2 a3 a4 : Int32), X0 a0 a1 a2 a3 a4 → am_Ok mX5_numberOf none (zP (fX5 m0) K) 0 0 12 [some (.ref 0), some (.int a0), some (.int a1), some (.int a2), some (.int a3), some (.int a4), none] [] (fX5 m0)) : ∀ (n : Nat) (v1 v2 v3 v4 v5 v6 : Int32), lpX5_numberOf_22 m0 K X0 n v1 v2 v3 v4 v5 v6 → am_Ok mX5_numberOf none (zP (fX5 m0) K) 0 0 22 [some (.ref 0), some (.int v1), some (.int v2), some (.int v3), some (.int v4), some (.int v5), some (.int v6)] [] (fX5 m0) := by
  intro n
  induction n with
  | zero => intro v1 v2 v3 v4 v5 v6 hw; exact False.elim hw
  | succ n ih =>
    intro v1 v2 v3 v4 v5 v6 hw
    unfold lpX5_numberOf_22 at hw
    refine am_iload dX5_numberOf_22 rfl ?_
    refine am_aload_n dX5_numberOf_24 rfl ?_
    refine am_getf dX5_numberOf_25 fl_X5_48 rfl rfl ?_
    refine am_iload dX5_numberOf_28 rfl ?_
    refine am_iaload dX5_numberOf_30 rfl hw.1 ?_
    have hw := hw.2
    refine am_icmp_ge 61 dX5_numberOf_31 (by decide) (fun c2 => ?_) (fun c2 => ?_)
    · have hw := hw.1 c2
      refine am_iload_n dX5_numberOf_61 rfl ?_
      refine am_iload dX5_numberOf_62 rfl ?_
      refine am_aload_n dX5_numberOf_64 rfl ?_
      refine am_getf dX5_numberOf_65 fl_X5_48 rfl rfl ?_
      refine am_iload dX5_numberOf_68 rfl ?_
      refine am_iaload dX5_numberOf_70 rfl hw.1 ?_
      have hw := hw.2
      refine am_imul dX5_numberOf_71 ?_
      refine am_iadd dX5_numberOf_72 ?_
      refine am_top (fun x3 ex3 => ?_)
      have hw := hw x3 ex3
      refine am_istore_n' (ls' := [some (.ref 0), some (.int v1), some (.int v2), some (.int x3), some (.int v4), some (.int v5), some (.int v6)]) dX5_numberOf_73 rfl rfl rfl ?_
      refine am_iload dX5_numberOf_74 rfl ?_
      refine am_iconst dX5_numberOf_76 ic_5 ?_
      refine am_imul dX5_numberOf_77 ?_
      refine am_top (fun x4 ex4 => ?_)
      have hw := hw x4 ex4
      refine am_istore' (ls' := [some (.ref 0), some (.int v1), some (.int v2), some (.int x3), some (.int x4), some (.int v5), some (.int v6)]) dX5_numberOf_78 rfl rfl rfl ?_
      refine am_iinc' (lf := fun y9 => [some (.ref 0), some (.int v1), some (.int v2), some (.int x3), some (.int x4), some (.int y9), some (.int v6)]) dX5_numberOf_80 rfl rfl rfl ic_1 (fun _ => rfl) (fun x5 ex5 => ?_)
      have hw := hw x5 ex5
      refine am_goto 12 dX5_numberOf_83 (by decide) ?_
      refine am_forget (ls' := [some (.ref 0), some (.int v1), some (.int v2), some (.int x3), some (.int x4), some (.int x5), none]) [true, true, true, true, true, true, false] rfl ?_
      exact hX0 _ _ _ _ _ hw
    · have hw := hw.2 c2
      refine am_iload_n dX5_numberOf_34 rfl ?_
      refine am_iload_n dX5_numberOf_35 rfl ?_
      refine am_aload_n dX5_numberOf_36 rfl ?_
      refine am_getf dX5_numberOf_37 fl_X5_45 rfl rfl ?_
      refine am_iconst dX5_numberOf_40 ic_4 ?_
      refine am_iload dX5_numberOf_41 rfl ?_
      refine am_imul dX5_numberOf_43 ?_
      refine am_iload dX5_numberOf_44 rfl ?_
      refine am_iadd dX5_numberOf_46 ?_
      refine am_iaload dX5_numberOf_47 rfl hw.1 ?_
      have hw := hw.2
      refine am_imul dX5_numberOf_48 ?_
      refine am_iadd dX5_numberOf_49 ?_
      refine am_top (fun x6 ex6 => ?_)
      have hw := hw x6 ex6
      refine am_istore_n' (ls' := [some (.ref 0), some (.int x6), some (.int v2), some (.int v3), some (.int v4), some (.int v5), some (.int v6)]) dX5_numberOf_50 rfl rfl rfl ?_
      refine am_iload_n dX5_numberOf_51 rfl ?_
      refine am_iconst dX5_numberOf_52 ic_4 ?_
      refine am_imul dX5_numberOf_53 ?_
      refine am_top (fun x7 ex7 => ?_)
      have hw := hw x7 ex7
      refine am_istore_n' (ls' := [some (.ref 0), some (.int x6), some (.int x7), some (.int v3), some (.int v4), some (.int v5), some (.int v6)]) dX5_numberOf_54 rfl rfl rfl ?_
      refine am_iinc' (lf := fun y9 => [some (.ref 0), some (.int x6), some (.int x7), some (.int v3), some (.int v4), some (.int v5), some (.int y9)]) dX5_numberOf_55 rfl rfl rfl ic_1 (fun _ => rfl) (fun x8 ex8 => ?_)
      have hw := hw x8 ex8
      refine am_goto 22 dX5_numberOf_58 (by decide) ?_
      refine am_forget (ls' := [some (.ref 0), some (.int x6), some (.int x7), some (.int v3), some (.int v4), some (.int v5), some (.int x8)]) [true, true, true, true, true, true, true] rfl ?_
      exact ih _ _ _ _ _ _ hw
def lpX5_numberOf_12 (m0 : Mu) (K : Int32 → Prop)  : Nat → Int32 → Int32 → Int32 → Int32 → Int32 → Prop
  | 0, _, _, _, _, _ => False
  | n + 1, v1, v2, v3, v4, v5 => (((6 : Int32) ≤ v5 → (vp_in v1 64 ∧ (vp_in v3 15625 ∧ K (((((m0 9 (v1).toNatClampNeg) * (56 : Int32)) + (m0 12 (v3).toNatClampNeg)) * (12 : Int32)) + (m0 32 18))))) ∧ (¬ (6 : Int32) ≤ v5 → (∃ n9 : Nat, lpX5_numberOf_22 m0 K (fun a0 a1 a2 a3 a4 => lpX5_numberOf_12 m0 K n a0 a1 a2 a3 a4) n9 v1 v2 v3 v4 v5 (0 : Int32))))
set_option maxRecDepth 20000 in
theorem slpX5_numberOf_12 {m0 : Mu} {K : Int32 → Prop} : ∀ (n : Nat) (v1 v2 v3 v4 v5 : Int32), lpX5_numberOf_12 m0 K n v1 v2 v3 v4 v5 → am_Ok mX5_numberOf none (zP (fX5 m0) K) 0 0 12 [some (.ref 0), some (.int v1), some (.int v2), some (.int v3), some (.int v4), some (.int v5), none] [] (fX5 m0) := by
  intro n
  induction n with
  | zero => intro v1 v2 v3 v4 v5 hw; exact False.elim hw
  | succ n ih =>
    intro v1 v2 v3 v4 v5 hw
    unfold lpX5_numberOf_12 at hw
    refine am_iload dX5_numberOf_12 rfl ?_
    refine am_bipush dX5_numberOf_14 bc_6 ?_
    refine am_icmp_ge 86 dX5_numberOf_16 (by decide) (fun c1 => ?_) (fun c1 => ?_)
    · have hw := hw.1 c1
      refine am_aload_n dX5_numberOf_86 rfl ?_
      refine am_getf dX5_numberOf_87 fl_X5_30 rfl rfl ?_
      refine am_iload_n dX5_numberOf_90 rfl ?_
      refine am_iaload dX5_numberOf_91 rfl hw.1 ?_
      have hw := hw.2
      refine am_bipush dX5_numberOf_92 bc_56 ?_
      refine am_imul dX5_numberOf_94 ?_
      refine am_aload_n dX5_numberOf_95 rfl ?_
      refine am_getf dX5_numberOf_96 fl_X5_36 rfl rfl ?_
      refine am_iload_n dX5_numberOf_99 rfl ?_
      refine am_iaload dX5_numberOf_100 rfl hw.1 ?_
      have hw := hw.2
      refine am_iadd dX5_numberOf_101 ?_
      refine am_bipush dX5_numberOf_102 bc_12 ?_
      refine am_imul dX5_numberOf_104 ?_
      refine am_aload_n dX5_numberOf_105 rfl ?_
      refine am_getf dX5_numberOf_106 fl_X5_155 rfl rfl ?_
      refine am_iadd dX5_numberOf_109 ?_
      exact am_ireturn dX5_numberOf_110 rfl ⟨_, rfl, rfl, hw⟩
    · have hw := hw.2 c1
      refine am_iconst dX5_numberOf_19 ic_0 ?_
      refine am_istore' (ls' := [some (.ref 0), some (.int v1), some (.int v2), some (.int v3), some (.int v4), some (.int v5), some (.int (0 : Int32))]) dX5_numberOf_20 rfl rfl rfl ?_
      obtain ⟨n9, hw⟩ := hw
      refine am_forget (ls' := [some (.ref 0), some (.int v1), some (.int v2), some (.int v3), some (.int v4), some (.int v5), some (.int (0 : Int32))]) [true, true, true, true, true, true, true] rfl ?_
      exact slpX5_numberOf_22 (fun a0 a1 a2 a3 a4 hq => ih a0 a1 a2 a3 a4 hq) n9 _ _ _ _ _ _ hw
def wX5_numberOf (m0 : Mu) (K : Int32 → Prop) : Prop := (∃ n10 : Nat, lpX5_numberOf_12 m0 K n10 (0 : Int32) (1 : Int32) (0 : Int32) (1 : Int32) (0 : Int32))
set_option maxRecDepth 20000 in
theorem sX5_numberOf {m0 : Mu} {K : Int32 → Prop} (hw : wX5_numberOf m0 K) : am_Met mX5_numberOf [.ref 0] (fX5 m0) 0 0 (zP (fX5 m0) K) := by
  unfold wX5_numberOf at hw
  refine am_Met.of2 (ls := [some (.ref 0), none, none, none, none, none, none]) pf_X5_numberOf rfl rfl rfl rfl ?_
  refine am_iconst dX5_numberOf_0 ic_0 ?_
  refine am_istore_n' (ls' := [some (.ref 0), some (.int (0 : Int32)), none, none, none, none, none]) dX5_numberOf_1 rfl rfl rfl ?_
  refine am_iconst dX5_numberOf_2 ic_1 ?_
  refine am_istore_n' (ls' := [some (.ref 0), some (.int (0 : Int32)), some (.int (1 : Int32)), none, none, none, none]) dX5_numberOf_3 rfl rfl rfl ?_
  refine am_iconst dX5_numberOf_4 ic_0 ?_
  refine am_istore_n' (ls' := [some (.ref 0), some (.int (0 : Int32)), some (.int (1 : Int32)), some (.int (0 : Int32)), none, none, none]) dX5_numberOf_5 rfl rfl rfl ?_
  refine am_iconst dX5_numberOf_6 ic_1 ?_
  refine am_istore' (ls' := [some (.ref 0), some (.int (0 : Int32)), some (.int (1 : Int32)), some (.int (0 : Int32)), some (.int (1 : Int32)), none, none]) dX5_numberOf_7 rfl rfl rfl ?_
  refine am_iconst dX5_numberOf_9 ic_0 ?_
  refine am_istore' (ls' := [some (.ref 0), some (.int (0 : Int32)), some (.int (1 : Int32)), some (.int (0 : Int32)), some (.int (1 : Int32)), some (.int (0 : Int32)), none]) dX5_numberOf_10 rfl rfl rfl ?_
  obtain ⟨n10, hw⟩ := hw
  refine am_forget (ls' := [some (.ref 0), some (.int (0 : Int32)), some (.int (1 : Int32)), some (.int (0 : Int32)), some (.int (1 : Int32)), some (.int (0 : Int32)), none]) [true, true, true, true, true, true, false] rfl ?_
  exact slpX5_numberOf_12  n10 _ _ _ _ _ hw

def lpX5_layOut_59 (K : Mu → Prop) (X0 : Int32 → Int32 → Int32 → Int32 → Mu → Prop) : Nat → Int32 → Int32 → Int32 → Int32 → Int32 → Mu → Prop
  | 0, _, _, _, _, _, _ => False
  | n + 1, v2, v3, v4, v5, v6, m0 => (vp_in v5 6 ∧ (((m0 17 (v5).toNatClampNeg) ≤ v6 → ∀ x7 : Int32, x7 = v5 + (1 : Int32) → X0 v2 v3 v4 x7 m0) ∧ (¬ (m0 17 (v5).toNatClampNeg) ≤ v6 → (vp_in (((4 : Int32) * v3) + v4) 24 ∧ (vp_in (((4 : Int32) * v5) + v6) 24 ∧ ∀ m8 : Mu, m8 = mu_up m0 16 ((((4 : Int32) * v5) + v6)).toNatClampNeg (m0 8 ((((4 : Int32) * v3) + v4)).toNatClampNeg) → ∀ x9 : Int32, x9 = v4 + (1 : Int32) → ∀ x10 : Int32, x10 = v6 + (1 : Int32) → lpX5_layOut_59 K X0 n v2 v3 x9 v5 x10 m8)))))
set_option maxRecDepth 20000 in
theorem slpX5_layOut_59 {K : Mu → Prop} {X0 : Int32 → Int32 → Int32 → Int32 → Mu → Prop} (hX0 : ∀ (a0 a1 a2 a3 : Int32) (mm : Mu), X0 a0 a1 a2 a3 mm → am_Ok mX5_layOut none (zV fX5 K) 0 0 30 [some (.ref 0), none, some (.int a0), some (.int a1), some (.int a2), some (.int a3), none] [] (fX5 mm)) : ∀ (n : Nat) (v2 v3 v4 v5 v6 : Int32) (m0 : Mu), lpX5_layOut_59 K X0 n v2 v3 v4 v5 v6 m0 → am_Ok mX5_layOut none (zV fX5 K) 0 0 59 [some (.ref 0), none, some (.int v2), some (.int v3), some (.int v4), some (.int v5), some (.int v6)] [] (fX5 m0) := by
  intro n
  induction n with
  | zero => intro v2 v3 v4 v5 v6 m0 hw; exact False.elim hw
  | succ n ih =>
    intro v2 v3 v4 v5 v6 m0 hw
    unfold lpX5_layOut_59 at hw
    refine am_iload dX5_layOut_59 rfl ?_
    refine am_aload_n dX5_layOut_61 rfl ?_
    refine am_getf dX5_layOut_62 fl_X5_48 rfl rfl ?_
    refine am_iload dX5_layOut_65 rfl ?_
    refine am_iaload dX5_layOut_67 rfl hw.1 ?_
    have hw := hw.2
    refine am_icmp_ge 103 dX5_layOut_68 (by decide) (fun c6 => ?_) (fun c6 => ?_)
    · have hw := hw.1 c6
      refine am_iinc' (lf := fun y9 => [some (.ref 0), none, some (.int v2), some (.int v3), some (.int v4), some (.int y9), some (.int v6)]) dX5_layOut_103 rfl rfl rfl ic_1 (fun _ => rfl) (fun x7 ex7 => ?_)
      have hw := hw x7 ex7
      refine am_goto 30 dX5_layOut_106 (by decide) ?_
      refine am_forget (ls' := [some (.ref 0), none, some (.int v2), some (.int v3), some (.int v4), some (.int x7), none]) [true, false, true, true, true, true, false] rfl ?_
      exact hX0 _ _ _ _ _ hw
    · have hw := hw.2 c6
      refine am_aload_n dX5_layOut_71 rfl ?_
      refine am_getf dX5_layOut_72 fl_X5_45 rfl rfl ?_
      refine am_iconst dX5_layOut_75 ic_4 ?_
      refine am_iload dX5_layOut_76 rfl ?_
      refine am_imul dX5_layOut_78 ?_
      refine am_iload dX5_layOut_79 rfl ?_
      refine am_iadd dX5_layOut_81 ?_
      refine am_aload_n dX5_layOut_82 rfl ?_
      refine am_getf dX5_layOut_83 fl_X5_27 rfl rfl ?_
      refine am_iconst dX5_layOut_86 ic_4 ?_
      refine am_iload_n dX5_layOut_87 rfl ?_
      refine am_imul dX5_layOut_88 ?_
      refine am_iload dX5_layOut_89 rfl ?_
      refine am_iadd dX5_layOut_91 ?_
      refine am_iaload dX5_layOut_92 rfl hw.1 ?_
      have hw := hw.2
      refine am_iastore' (F := fX5) (m := mu_up m0 16 ((((4 : Int32) * v5) + v6)).toNatClampNeg (m0 8 ((((4 : Int32) * v3) + v4)).toNatClampNeg)) dX5_layOut_93 rfl hw.1 rfl (fun m8 em8 => ?_)
      have hw := hw.2 m8 em8
      refine am_iinc' (lf := fun y9 => [some (.ref 0), none, some (.int v2), some (.int v3), some (.int y9), some (.int v5), some (.int v6)]) dX5_layOut_94 rfl rfl rfl ic_1 (fun _ => rfl) (fun x9 ex9 => ?_)
      have hw := hw x9 ex9
      refine am_iinc' (lf := fun y9 => [some (.ref 0), none, some (.int v2), some (.int v3), some (.int x9), some (.int v5), some (.int y9)]) dX5_layOut_97 rfl rfl rfl ic_1 (fun _ => rfl) (fun x10 ex10 => ?_)
      have hw := hw x10 ex10
      refine am_goto 59 dX5_layOut_100 (by decide) ?_
      refine am_forget (ls' := [some (.ref 0), none, some (.int v2), some (.int v3), some (.int x9), some (.int v5), some (.int x10)]) [true, false, true, true, true, true, true] rfl ?_
      exact ih _ _ _ _ _ _ hw
def lpX5_layOut_30 (K : Mu → Prop)  : Nat → Int32 → Int32 → Int32 → Int32 → Mu → Prop
  | 0, _, _, _, _, _ => False
  | n + 1, v2, v3, v4, v5, m0 => (((6 : Int32) ≤ v5 → K m0) ∧ (¬ (6 : Int32) ≤ v5 → (vp_in (((6 : Int32) * v2) + v5) 336 ∧ (vp_in v5 6 ∧ ∀ m5 : Mu, m5 = mu_up m0 17 (v5).toNatClampNeg (m0 11 ((((6 : Int32) * v2) + v5)).toNatClampNeg) → (∃ n11 : Nat, lpX5_layOut_59 K (fun a0 a1 a2 a3 mm => lpX5_layOut_30 K n a0 a1 a2 a3 mm) n11 v2 v3 v4 v5 (0 : Int32) m5)))))
set_option maxRecDepth 20000 in
theorem slpX5_layOut_30 {K : Mu → Prop} : ∀ (n : Nat) (v2 v3 v4 v5 : Int32) (m0 : Mu), lpX5_layOut_30 K n v2 v3 v4 v5 m0 → am_Ok mX5_layOut none (zV fX5 K) 0 0 30 [some (.ref 0), none, some (.int v2), some (.int v3), some (.int v4), some (.int v5), none] [] (fX5 m0) := by
  intro n
  induction n with
  | zero => intro v2 v3 v4 v5 m0 hw; exact False.elim hw
  | succ n ih =>
    intro v2 v3 v4 v5 m0 hw
    unfold lpX5_layOut_30 at hw
    refine am_iload dX5_layOut_30 rfl ?_
    refine am_bipush dX5_layOut_32 bc_6 ?_
    refine am_icmp_ge 109 dX5_layOut_34 (by decide) (fun c4 => ?_) (fun c4 => ?_)
    · have hw := hw.1 c4
      exact am_vreturn dX5_layOut_109 rfl ⟨_, rfl, rfl, hw⟩
    · have hw := hw.2 c4
      refine am_aload_n dX5_layOut_37 rfl ?_
      refine am_getf dX5_layOut_38 fl_X5_48 rfl rfl ?_
      refine am_iload dX5_layOut_41 rfl ?_
      refine am_aload_n dX5_layOut_43 rfl ?_
      refine am_getf dX5_layOut_44 fl_X5_33 rfl rfl ?_
      refine am_bipush dX5_layOut_47 bc_6 ?_
      refine am_iload_n dX5_layOut_49 rfl ?_
      refine am_imul dX5_layOut_50 ?_
      refine am_iload dX5_layOut_51 rfl ?_
      refine am_iadd dX5_layOut_53 ?_
      refine am_iaload dX5_layOut_54 rfl hw.1 ?_
      have hw := hw.2
      refine am_iastore' (F := fX5) (m := mu_up m0 17 (v5).toNatClampNeg (m0 11 ((((6 : Int32) * v2) + v5)).toNatClampNeg)) dX5_layOut_55 rfl hw.1 rfl (fun m5 em5 => ?_)
      have hw := hw.2 m5 em5
      refine am_iconst dX5_layOut_56 ic_0 ?_
      refine am_istore' (ls' := [some (.ref 0), none, some (.int v2), some (.int v3), some (.int v4), some (.int v5), some (.int (0 : Int32))]) dX5_layOut_57 rfl rfl rfl ?_
      obtain ⟨n11, hw⟩ := hw
      refine am_forget (ls' := [some (.ref 0), none, some (.int v2), some (.int v3), some (.int v4), some (.int v5), some (.int (0 : Int32))]) [true, false, true, true, true, true, true] rfl ?_
      exact slpX5_layOut_59 (fun a0 a1 a2 a3 mm hq => ih a0 a1 a2 a3 mm hq) n11 _ _ _ _ _ _ hw
def wX5_layOut (a1 : Int32) (m0 : Mu) (K : Mu → Prop) : Prop := ∀ m1 : Mu, m1 = mu_up m0 32 18 (am_rem a1 (12 : Int32)) → ∀ x2 : Int32, x2 = (am_rem (a1 / (12 : Int32)) (56 : Int32)) → ∀ x3 : Int32, x3 = ((a1 / (12 : Int32)) / (56 : Int32)) → (∃ n12 : Nat, lpX5_layOut_30 K n12 x2 x3 (0 : Int32) (0 : Int32) m1)
set_option maxRecDepth 20000 in
theorem sX5_layOut {a1 : Int32} {m0 : Mu} {K : Mu → Prop} (hw : wX5_layOut a1 m0 K) : am_Met mX5_layOut [.ref 0, .int a1] (fX5 m0) 0 0 (zV fX5 K) := by
  unfold wX5_layOut at hw
  refine am_Met.of2 (ls := [some (.ref 0), some (.int a1), none, none, none, none, none]) pf_X5_layOut rfl rfl rfl rfl ?_
  refine am_aload_n dX5_layOut_0 rfl ?_
  refine am_iload_n dX5_layOut_1 rfl ?_
  refine am_bipush dX5_layOut_2 bc_12 ?_
  refine am_irem' dX5_layOut_4 nz_12 ?_
  refine am_putf' (F := fX5) (m := mu_up m0 32 18 (am_rem a1 (12 : Int32))) dX5_layOut_5 fp_X5_155 rfl rfl rfl (fun m1 em1 => ?_)
  have hw := hw m1 em1
  refine am_iload_n dX5_layOut_8 rfl ?_
  refine am_bipush dX5_layOut_9 bc_12 ?_
  refine am_idiv dX5_layOut_11 nz_12 ?_
  refine am_bipush dX5_layOut_12 bc_56 ?_
  refine am_irem' dX5_layOut_14 nz_56 ?_
  refine am_top (fun x2 ex2 => ?_)
  have hw := hw x2 ex2
  refine am_istore_n' (ls' := [some (.ref 0), some (.int a1), some (.int x2), none, none, none, none]) dX5_layOut_15 rfl rfl rfl ?_
  refine am_iload_n dX5_layOut_16 rfl ?_
  refine am_bipush dX5_layOut_17 bc_12 ?_
  refine am_idiv dX5_layOut_19 nz_12 ?_
  refine am_bipush dX5_layOut_20 bc_56 ?_
  refine am_idiv dX5_layOut_22 nz_56 ?_
  refine am_top (fun x3 ex3 => ?_)
  have hw := hw x3 ex3
  refine am_istore_n' (ls' := [some (.ref 0), some (.int a1), some (.int x2), some (.int x3), none, none, none]) dX5_layOut_23 rfl rfl rfl ?_
  refine am_iconst dX5_layOut_24 ic_0 ?_
  refine am_istore' (ls' := [some (.ref 0), some (.int a1), some (.int x2), some (.int x3), some (.int (0 : Int32)), none, none]) dX5_layOut_25 rfl rfl rfl ?_
  refine am_iconst dX5_layOut_27 ic_0 ?_
  refine am_istore' (ls' := [some (.ref 0), some (.int a1), some (.int x2), some (.int x3), some (.int (0 : Int32)), some (.int (0 : Int32)), none]) dX5_layOut_28 rfl rfl rfl ?_
  obtain ⟨n12, hw⟩ := hw
  refine am_forget (ls' := [some (.ref 0), none, some (.int x2), some (.int x3), some (.int (0 : Int32)), some (.int (0 : Int32)), none]) [true, false, true, true, true, true, false] rfl ?_
  exact slpX5_layOut_30  n12 _ _ _ _ _ hw

def lpX5_sum_6 (m0 : Mu) (K : Int32 → Prop)  : Nat → Int32 → Int32 → Int32 → Int32 → Int32 → Prop
  | 0, _, _, _, _, _ => False
  | n + 1, v1, v2, v3, v4, v5 => (((v2 + v3) ≤ v5 → K v4) ∧ (¬ (v2 + v3) ≤ v5 → (vp_in (((4 : Int32) * v1) + v5) 24 ∧ (vp_in ((15 : Int32) + (m0 16 ((((4 : Int32) * v1) + v5)).toNatClampNeg)) 148 ∧ ∀ x2 : Int32, x2 = (v4 + (m0 0 (((15 : Int32) + (m0 16 ((((4 : Int32) * v1) + v5)).toNatClampNeg))).toNatClampNeg)) → ∀ x3 : Int32, x3 = v5 + (1 : Int32) → lpX5_sum_6 m0 K n v1 v2 v3 x2 x3))))
set_option maxRecDepth 20000 in
theorem slpX5_sum_6 {m0 : Mu} {K : Int32 → Prop} : ∀ (n : Nat) (v1 v2 v3 v4 v5 : Int32), lpX5_sum_6 m0 K n v1 v2 v3 v4 v5 → am_Ok mX5_sum none (zP (fX5 m0) K) 0 0 6 [some (.ref 0), some (.int v1), some (.int v2), some (.int v3), some (.int v4), some (.int v5)] [] (fX5 m0) := by
  intro n
  induction n with
  | zero => intro v1 v2 v3 v4 v5 hw; exact False.elim hw
  | succ n ih =>
    intro v1 v2 v3 v4 v5 hw
    unfold lpX5_sum_6 at hw
    refine am_iload dX5_sum_6 rfl ?_
    refine am_iload_n dX5_sum_8 rfl ?_
    refine am_iload_n dX5_sum_9 rfl ?_
    refine am_iadd dX5_sum_10 ?_
    refine am_icmp_ge 44 dX5_sum_11 (by decide) (fun c1 => ?_) (fun c1 => ?_)
    · have hw := hw.1 c1
      refine am_iload dX5_sum_44 rfl ?_
      exact am_ireturn dX5_sum_46 rfl ⟨_, rfl, rfl, hw⟩
    · have hw := hw.2 c1
      refine am_iload dX5_sum_14 rfl ?_
      refine am_aload_n dX5_sum_16 rfl ?_
      refine am_getf dX5_sum_17 fl_X5_7 rfl rfl ?_
      refine am_bipush dX5_sum_20 bc_15 ?_
      refine am_aload_n dX5_sum_22 rfl ?_
      refine am_getf dX5_sum_23 fl_X5_45 rfl rfl ?_
      refine am_iconst dX5_sum_26 ic_4 ?_
      refine am_iload_n dX5_sum_27 rfl ?_
      refine am_imul dX5_sum_28 ?_
      refine am_iload dX5_sum_29 rfl ?_
      refine am_iadd dX5_sum_31 ?_
      refine am_iaload dX5_sum_32 rfl hw.1 ?_
      have hw := hw.2
      refine am_iadd dX5_sum_33 ?_
      refine am_iaload dX5_sum_34 rfl hw.1 ?_
      have hw := hw.2
      refine am_iadd dX5_sum_35 ?_
      refine am_top (fun x2 ex2 => ?_)
      have hw := hw x2 ex2
      refine am_istore' (ls' := [some (.ref 0), some (.int v1), some (.int v2), some (.int v3), some (.int x2), some (.int v5)]) dX5_sum_36 rfl rfl rfl ?_
      refine am_iinc' (lf := fun y9 => [some (.ref 0), some (.int v1), some (.int v2), some (.int v3), some (.int x2), some (.int y9)]) dX5_sum_38 rfl rfl rfl ic_1 (fun _ => rfl) (fun x3 ex3 => ?_)
      have hw := hw x3 ex3
      refine am_goto 6 dX5_sum_41 (by decide) ?_
      refine am_forget (ls' := [some (.ref 0), some (.int v1), some (.int v2), some (.int v3), some (.int x2), some (.int x3)]) [true, true, true, true, true, true] rfl ?_
      exact ih _ _ _ _ _ hw
def wX5_sum (a1 a2 a3 : Int32) (m0 : Mu) (K : Int32 → Prop) : Prop := (∃ n4 : Nat, lpX5_sum_6 m0 K n4 a1 a2 a3 (0 : Int32) a2)
set_option maxRecDepth 20000 in
theorem sX5_sum {a1 a2 a3 : Int32} {m0 : Mu} {K : Int32 → Prop} (hw : wX5_sum a1 a2 a3 m0 K) : am_Met mX5_sum [.ref 0, .int a1, .int a2, .int a3] (fX5 m0) 0 0 (zP (fX5 m0) K) := by
  unfold wX5_sum at hw
  refine am_Met.of2 (ls := [some (.ref 0), some (.int a1), some (.int a2), some (.int a3), none, none]) pf_X5_sum rfl rfl rfl rfl ?_
  refine am_iconst dX5_sum_0 ic_0 ?_
  refine am_istore' (ls' := [some (.ref 0), some (.int a1), some (.int a2), some (.int a3), some (.int (0 : Int32)), none]) dX5_sum_1 rfl rfl rfl ?_
  refine am_iload_n dX5_sum_3 rfl ?_
  refine am_istore' (ls' := [some (.ref 0), some (.int a1), some (.int a2), some (.int a3), some (.int (0 : Int32)), some (.int a2)]) dX5_sum_4 rfl rfl rfl ?_
  obtain ⟨n4, hw⟩ := hw
  refine am_forget (ls' := [some (.ref 0), some (.int a1), some (.int a2), some (.int a3), some (.int (0 : Int32)), some (.int a2)]) [true, true, true, true, true, true] rfl ?_
  exact slpX5_sum_6  n4 _ _ _ _ _ hw

def lpX5_canBe_4 (m0 : Mu) (K : Int32 → Prop)  : Nat → Int32 → Int32 → Prop
  | 0, _, _ => False
  | n + 1, v1, v2 => (((6 : Int32) ≤ v2 → (narrow .boolean (.int v1) = .int v1 ∧ K v1)) ∧ (¬ (6 : Int32) ≤ v2 → ((v1 = 0 → ∀ x3 : Int32, x3 = v2 + (1 : Int32) → lpX5_canBe_4 m0 K n (0 : Int32) x3) ∧ (¬ v1 = 0 → (vp_in v2 6 ∧ (((m0 17 (v2).toNatClampNeg) = 0 → ∀ x5 : Int32, x5 = v2 + (1 : Int32) → lpX5_canBe_4 m0 K n (1 : Int32) x5) ∧ (¬ (m0 17 (v2).toNatClampNeg) = 0 → (((m0 32 13) < v2 → ∀ x7 : Int32, x7 = v2 + (1 : Int32) → lpX5_canBe_4 m0 K n (0 : Int32) x7) ∧ (¬ (m0 32 13) < v2 → (vp_in v2 6 ∧ wX5_sum v2 (0 : Int32) (m0 17 (v2).toNatClampNeg) m0 (fun r8 : Int32 => (vp_in v2 6 ∧ (vp_in ((0 : Int32) + (m0 14 (v2).toNatClampNeg)) 148 ∧ (((m0 0 (((0 : Int32) + (m0 14 (v2).toNatClampNeg))).toNatClampNeg) < r8 → ∀ x10 : Int32, x10 = v2 + (1 : Int32) → lpX5_canBe_4 m0 K n (0 : Int32) x10) ∧ (¬ (m0 0 (((0 : Int32) + (m0 14 (v2).toNatClampNeg))).toNatClampNeg) < r8 → ∀ x11 : Int32, x11 = v2 + (1 : Int32) → lpX5_canBe_4 m0 K n (1 : Int32) x11)))))))))))))))
set_option maxRecDepth 20000 in
theorem slpX5_canBe_4 {m0 : Mu} {K : Int32 → Prop} : ∀ (n : Nat) (v1 v2 : Int32), lpX5_canBe_4 m0 K n v1 v2 → am_Ok mX5_canBe none (zP (fX5 m0) K) 0 0 4 [some (.ref 0), some (.int v1), some (.int v2)] [] (fX5 m0) := by
  intro n
  induction n with
  | zero => intro v1 v2 hw; exact False.elim hw
  | succ n ih =>
    intro v1 v2 hw
    unfold lpX5_canBe_4 at hw
    refine am_iload_n dX5_canBe_4 rfl ?_
    refine am_bipush dX5_canBe_5 bc_6 ?_
    refine am_icmp_ge 71 dX5_canBe_7 (by decide) (fun c1 => ?_) (fun c1 => ?_)
    · have hw := hw.1 c1
      refine am_iload_n dX5_canBe_71 rfl ?_
      exact am_zreturn dX5_canBe_72 rfl hw.1 ⟨_, rfl, rfl, hw.2⟩
    · have hw := hw.2 c1
      refine am_iload_n dX5_canBe_10 rfl ?_
      refine am_if_eq 63 dX5_canBe_11 (by decide) (fun c2 => ?_) (fun c2 => ?_)
      · have hw := hw.1 c2
        refine am_iconst dX5_canBe_63 ic_0 ?_
        refine am_istore_n' (ls' := [some (.ref 0), some (.int (0 : Int32)), some (.int v2)]) dX5_canBe_64 rfl rfl rfl ?_
        refine am_iinc' (lf := fun y9 => [some (.ref 0), some (.int (0 : Int32)), some (.int y9)]) dX5_canBe_65 rfl rfl rfl ic_1 (fun _ => rfl) (fun x3 ex3 => ?_)
        have hw := hw x3 ex3
        refine am_goto 4 dX5_canBe_68 (by decide) ?_
        refine am_forget (ls' := [some (.ref 0), some (.int (0 : Int32)), some (.int x3)]) [true, true, true] rfl ?_
        exact ih _ _ hw
      · have hw := hw.2 c2
        refine am_aload_n dX5_canBe_14 rfl ?_
        refine am_getf dX5_canBe_15 fl_X5_48 rfl rfl ?_
        refine am_iload_n dX5_canBe_18 rfl ?_
        refine am_iaload dX5_canBe_19 rfl hw.1 ?_
        have hw := hw.2
        refine am_if_eq 59 dX5_canBe_20 (by decide) (fun c4 => ?_) (fun c4 => ?_)
        · have hw := hw.1 c4
          refine am_iconst dX5_canBe_59 ic_1 ?_
          refine am_goto 64 dX5_canBe_60 (by decide) ?_
          refine am_istore_n' (ls' := [some (.ref 0), some (.int (1 : Int32)), some (.int v2)]) dX5_canBe_64 rfl rfl rfl ?_
          refine am_iinc' (lf := fun y9 => [some (.ref 0), some (.int (1 : Int32)), some (.int y9)]) dX5_canBe_65 rfl rfl rfl ic_1 (fun _ => rfl) (fun x5 ex5 => ?_)
          have hw := hw x5 ex5
          refine am_goto 4 dX5_canBe_68 (by decide) ?_
          refine am_forget (ls' := [some (.ref 0), some (.int (1 : Int32)), some (.int x5)]) [true, true, true] rfl ?_
          exact ih _ _ hw
        · have hw := hw.2 c4
          refine am_iload_n dX5_canBe_23 rfl ?_
          refine am_aload_n dX5_canBe_24 rfl ?_
          refine am_getf dX5_canBe_25 fl_X5_152 rfl rfl ?_
          refine am_icmp_gt 63 dX5_canBe_28 (by decide) (fun c6 => ?_) (fun c6 => ?_)
          · have hw := hw.1 c6
            refine am_iconst dX5_canBe_63 ic_0 ?_
            refine am_istore_n' (ls' := [some (.ref 0), some (.int (0 : Int32)), some (.int v2)]) dX5_canBe_64 rfl rfl rfl ?_
            refine am_iinc' (lf := fun y9 => [some (.ref 0), some (.int (0 : Int32)), some (.int y9)]) dX5_canBe_65 rfl rfl rfl ic_1 (fun _ => rfl) (fun x7 ex7 => ?_)
            have hw := hw x7 ex7
            refine am_goto 4 dX5_canBe_68 (by decide) ?_
            refine am_forget (ls' := [some (.ref 0), some (.int (0 : Int32)), some (.int x7)]) [true, true, true] rfl ?_
            exact ih _ _ hw
          · have hw := hw.2 c6
            refine am_aload_n dX5_canBe_31 rfl ?_
            refine am_iload_n dX5_canBe_32 rfl ?_
            refine am_iconst dX5_canBe_33 ic_0 ?_
            refine am_aload_n dX5_canBe_34 rfl ?_
            refine am_getf dX5_canBe_35 fl_X5_48 rfl rfl ?_
            refine am_iload_n dX5_canBe_38 rfl ?_
            refine am_iaload dX5_canBe_39 rfl hw.1 ?_
            have hw := hw.2
            refine am_selfP fam_X5 rfl dX5_canBe_40 q_X5_canBe_158 rfl (sX5_sum hw) rfl rfl rfl rfl rfl (fun r8 hw => ?_)
            refine am_aload_n dX5_canBe_43 rfl ?_
            refine am_getf dX5_canBe_44 fl_X5_7 rfl rfl ?_
            refine am_iconst dX5_canBe_47 ic_0 ?_
            refine am_aload_n dX5_canBe_48 rfl ?_
            refine am_getf dX5_canBe_49 fl_X5_39 rfl rfl ?_
            refine am_iload_n dX5_canBe_52 rfl ?_
            refine am_iaload dX5_canBe_53 rfl hw.1 ?_
            have hw := hw.2
            refine am_iadd dX5_canBe_54 ?_
            refine am_iaload dX5_canBe_55 rfl hw.1 ?_
            have hw := hw.2
            refine am_icmp_gt 63 dX5_canBe_56 (by decide) (fun c9 => ?_) (fun c9 => ?_)
            · have hw := hw.1 c9
              refine am_iconst dX5_canBe_63 ic_0 ?_
              refine am_istore_n' (ls' := [some (.ref 0), some (.int (0 : Int32)), some (.int v2)]) dX5_canBe_64 rfl rfl rfl ?_
              refine am_iinc' (lf := fun y9 => [some (.ref 0), some (.int (0 : Int32)), some (.int y9)]) dX5_canBe_65 rfl rfl rfl ic_1 (fun _ => rfl) (fun x10 ex10 => ?_)
              have hw := hw x10 ex10
              refine am_goto 4 dX5_canBe_68 (by decide) ?_
              refine am_forget (ls' := [some (.ref 0), some (.int (0 : Int32)), some (.int x10)]) [true, true, true] rfl ?_
              exact ih _ _ hw
            · have hw := hw.2 c9
              refine am_iconst dX5_canBe_59 ic_1 ?_
              refine am_goto 64 dX5_canBe_60 (by decide) ?_
              refine am_istore_n' (ls' := [some (.ref 0), some (.int (1 : Int32)), some (.int v2)]) dX5_canBe_64 rfl rfl rfl ?_
              refine am_iinc' (lf := fun y9 => [some (.ref 0), some (.int (1 : Int32)), some (.int y9)]) dX5_canBe_65 rfl rfl rfl ic_1 (fun _ => rfl) (fun x11 ex11 => ?_)
              have hw := hw x11 ex11
              refine am_goto 4 dX5_canBe_68 (by decide) ?_
              refine am_forget (ls' := [some (.ref 0), some (.int (1 : Int32)), some (.int x11)]) [true, true, true] rfl ?_
              exact ih _ _ hw
def wX5_canBe (m0 : Mu) (K : Int32 → Prop) : Prop := (∃ n12 : Nat, lpX5_canBe_4 m0 K n12 (1 : Int32) (0 : Int32))
set_option maxRecDepth 20000 in
theorem sX5_canBe {m0 : Mu} {K : Int32 → Prop} (hw : wX5_canBe m0 K) : am_Met mX5_canBe [.ref 0] (fX5 m0) 0 0 (zP (fX5 m0) K) := by
  unfold wX5_canBe at hw
  refine am_Met.of2 (ls := [some (.ref 0), none, none]) pf_X5_canBe rfl rfl rfl rfl ?_
  refine am_iconst dX5_canBe_0 ic_1 ?_
  refine am_istore_n' (ls' := [some (.ref 0), some (.int (1 : Int32)), none]) dX5_canBe_1 rfl rfl rfl ?_
  refine am_iconst dX5_canBe_2 ic_0 ?_
  refine am_istore_n' (ls' := [some (.ref 0), some (.int (1 : Int32)), some (.int (0 : Int32))]) dX5_canBe_3 rfl rfl rfl ?_
  obtain ⟨n12, hw⟩ := hw
  refine am_forget (ls' := [some (.ref 0), some (.int (1 : Int32)), some (.int (0 : Int32))]) [true, true, true] rfl ?_
  exact slpX5_canBe_4  n12 _ _ hw

def lpX5_insertHere_8 (K : Mu → Prop)  : Nat → Int32 → Int32 → Int32 → Int32 → Mu → Prop
  | 0, _, _, _, _, _ => False
  | n + 1, v1, v2, v3, v4, m0 => ((v4 ≤ v2 → (vp_in (((4 : Int32) * v1) + v2) 24 ∧ ∀ m3 : Mu, m3 = mu_up m0 16 ((((4 : Int32) * v1) + v2)).toNatClampNeg v3 → (vp_in v1 6 ∧ (vp_in v1 6 ∧ ∀ m4 : Mu, m4 = mu_up m3 17 (v1).toNatClampNeg ((m3 17 (v1).toNatClampNeg) + (1 : Int32)) → K m4)))) ∧ (¬ v4 ≤ v2 → (vp_in ((((4 : Int32) * v1) + v4) - (1 : Int32)) 24 ∧ (vp_in (((4 : Int32) * v1) + v4) 24 ∧ ∀ m5 : Mu, m5 = mu_up m0 16 ((((4 : Int32) * v1) + v4)).toNatClampNeg (m0 16 (((((4 : Int32) * v1) + v4) - (1 : Int32))).toNatClampNeg) → ∀ x6 : Int32, x6 = v4 + (-1 : Int32) → lpX5_insertHere_8 K n v1 v2 v3 x6 m5))))
set_option maxRecDepth 20000 in
theorem slpX5_insertHere_8 {K : Mu → Prop} : ∀ (n : Nat) (v1 v2 v3 v4 : Int32) (m0 : Mu), lpX5_insertHere_8 K n v1 v2 v3 v4 m0 → am_Ok mX5_insertHere none (zV fX5 K) 0 0 8 [some (.ref 0), some (.int v1), some (.int v2), some (.int v3), some (.int v4)] [] (fX5 m0) := by
  intro n
  induction n with
  | zero => intro v1 v2 v3 v4 m0 hw; exact False.elim hw
  | succ n ih =>
    intro v1 v2 v3 v4 m0 hw
    unfold lpX5_insertHere_8 at hw
    refine am_iload dX5_insertHere_8 rfl ?_
    refine am_iload_n dX5_insertHere_10 rfl ?_
    refine am_icmp_le 44 dX5_insertHere_11 (by decide) (fun c2 => ?_) (fun c2 => ?_)
    · have hw := hw.1 c2
      refine am_aload_n dX5_insertHere_44 rfl ?_
      refine am_getf dX5_insertHere_45 fl_X5_45 rfl rfl ?_
      refine am_iconst dX5_insertHere_48 ic_4 ?_
      refine am_iload_n dX5_insertHere_49 rfl ?_
      refine am_imul dX5_insertHere_50 ?_
      refine am_iload_n dX5_insertHere_51 rfl ?_
      refine am_iadd dX5_insertHere_52 ?_
      refine am_iload_n dX5_insertHere_53 rfl ?_
      refine am_iastore' (F := fX5) (m := mu_up m0 16 ((((4 : Int32) * v1) + v2)).toNatClampNeg v3) dX5_insertHere_54 rfl hw.1 rfl (fun m3 em3 => ?_)
      have hw := hw.2 m3 em3
      refine am_aload_n dX5_insertHere_55 rfl ?_
      refine am_getf dX5_insertHere_56 fl_X5_48 rfl rfl ?_
      refine am_iload_n dX5_insertHere_59 rfl ?_
      refine am_dup2 dX5_insertHere_60 rfl rfl ?_
      refine am_iaload dX5_insertHere_61 rfl hw.1 ?_
      have hw := hw.2
      refine am_iconst dX5_insertHere_62 ic_1 ?_
      refine am_iadd dX5_insertHere_63 ?_
      refine am_iastore' (F := fX5) (m := mu_up m3 17 (v1).toNatClampNeg ((m3 17 (v1).toNatClampNeg) + (1 : Int32))) dX5_insertHere_64 rfl hw.1 rfl (fun m4 em4 => ?_)
      have hw := hw.2 m4 em4
      exact am_vreturn dX5_insertHere_65 rfl ⟨_, rfl, rfl, hw⟩
    · have hw := hw.2 c2
      refine am_aload_n dX5_insertHere_14 rfl ?_
      refine am_getf dX5_insertHere_15 fl_X5_45 rfl rfl ?_
      refine am_iconst dX5_insertHere_18 ic_4 ?_
      refine am_iload_n dX5_insertHere_19 rfl ?_
      refine am_imul dX5_insertHere_20 ?_
      refine am_iload dX5_insertHere_21 rfl ?_
      refine am_iadd dX5_insertHere_23 ?_
      refine am_aload_n dX5_insertHere_24 rfl ?_
      refine am_getf dX5_insertHere_25 fl_X5_45 rfl rfl ?_
      refine am_iconst dX5_insertHere_28 ic_4 ?_
      refine am_iload_n dX5_insertHere_29 rfl ?_
      refine am_imul dX5_insertHere_30 ?_
      refine am_iload dX5_insertHere_31 rfl ?_
      refine am_iadd dX5_insertHere_33 ?_
      refine am_iconst dX5_insertHere_34 ic_1 ?_
      refine am_isub dX5_insertHere_35 ?_
      refine am_iaload dX5_insertHere_36 rfl hw.1 ?_
      have hw := hw.2
      refine am_iastore' (F := fX5) (m := mu_up m0 16 ((((4 : Int32) * v1) + v4)).toNatClampNeg (m0 16 (((((4 : Int32) * v1) + v4) - (1 : Int32))).toNatClampNeg)) dX5_insertHere_37 rfl hw.1 rfl (fun m5 em5 => ?_)
      have hw := hw.2 m5 em5
      refine am_iinc' (lf := fun y9 => [some (.ref 0), some (.int v1), some (.int v2), some (.int v3), some (.int y9)]) dX5_insertHere_38 rfl rfl rfl ic_m1 (fun _ => rfl) (fun x6 ex6 => ?_)
      have hw := hw x6 ex6
      refine am_goto 8 dX5_insertHere_41 (by decide) ?_
      refine am_forget (ls' := [some (.ref 0), some (.int v1), some (.int v2), some (.int v3), some (.int x6)]) [true, true, true, true, true] rfl ?_
      exact ih _ _ _ _ _ hw
def wX5_insertHere (a1 a2 a3 : Int32) (m0 : Mu) (K : Mu → Prop) : Prop := (vp_in a1 6 ∧ ∀ x1 : Int32, x1 = (m0 17 (a1).toNatClampNeg) → (∃ n7 : Nat, lpX5_insertHere_8 K n7 a1 a2 a3 x1 m0))
set_option maxRecDepth 20000 in
theorem sX5_insertHere {a1 a2 a3 : Int32} {m0 : Mu} {K : Mu → Prop} (hw : wX5_insertHere a1 a2 a3 m0 K) : am_Met mX5_insertHere [.ref 0, .int a1, .int a2, .int a3] (fX5 m0) 0 0 (zV fX5 K) := by
  unfold wX5_insertHere at hw
  refine am_Met.of2 (ls := [some (.ref 0), some (.int a1), some (.int a2), some (.int a3), none]) pf_X5_insertHere rfl rfl rfl rfl ?_
  refine am_aload_n dX5_insertHere_0 rfl ?_
  refine am_getf dX5_insertHere_1 fl_X5_48 rfl rfl ?_
  refine am_iload_n dX5_insertHere_4 rfl ?_
  refine am_iaload dX5_insertHere_5 rfl hw.1 ?_
  have hw := hw.2
  refine am_top (fun x1 ex1 => ?_)
  have hw := hw x1 ex1
  refine am_istore' (ls' := [some (.ref 0), some (.int a1), some (.int a2), some (.int a3), some (.int x1)]) dX5_insertHere_6 rfl rfl rfl ?_
  obtain ⟨n7, hw⟩ := hw
  refine am_forget (ls' := [some (.ref 0), some (.int a1), some (.int a2), some (.int a3), some (.int x1)]) [true, true, true, true, true] rfl ?_
  exact slpX5_insertHere_8  n7 _ _ _ _ _ hw

def lpX5_takeHere_24 (K : Int32 → Mu → Prop)  : Nat → Int32 → Int32 → Int32 → Mu → Prop
  | 0, _, _, _, _ => False
  | n + 1, v1, v3, v4, m0 => (vp_in v1 6 ∧ (((m0 17 (v1).toNatClampNeg) ≤ v4 → K v3 m0) ∧ (¬ (m0 17 (v1).toNatClampNeg) ≤ v4 → (vp_in ((((4 : Int32) * v1) + v4) + (1 : Int32)) 24 ∧ (vp_in (((4 : Int32) * v1) + v4) 24 ∧ ∀ m4 : Mu, m4 = mu_up m0 16 ((((4 : Int32) * v1) + v4)).toNatClampNeg (m0 16 (((((4 : Int32) * v1) + v4) + (1 : Int32))).toNatClampNeg) → ∀ x5 : Int32, x5 = v4 + (1 : Int32) → lpX5_takeHere_24 K n v1 v3 x5 m4)))))
set_option maxRecDepth 20000 in
theorem slpX5_takeHere_24 {K : Int32 → Mu → Prop} : ∀ (n : Nat) (v1 v3 v4 : Int32) (m0 : Mu), lpX5_takeHere_24 K n v1 v3 v4 m0 → am_Ok mX5_takeHere none (zI fX5 K) 0 0 24 [some (.ref 0), some (.int v1), none, some (.int v3), some (.int v4)] [] (fX5 m0) := by
  intro n
  induction n with
  | zero => intro v1 v3 v4 m0 hw; exact False.elim hw
  | succ n ih =>
    intro v1 v3 v4 m0 hw
    unfold lpX5_takeHere_24 at hw
    refine am_iload dX5_takeHere_24 rfl ?_
    refine am_aload_n dX5_takeHere_26 rfl ?_
    refine am_getf dX5_takeHere_27 fl_X5_48 rfl rfl ?_
    refine am_iload_n dX5_takeHere_30 rfl ?_
    refine am_iaload dX5_takeHere_31 rfl hw.1 ?_
    have hw := hw.2
    refine am_icmp_ge 65 dX5_takeHere_32 (by decide) (fun c3 => ?_) (fun c3 => ?_)
    · have hw := hw.1 c3
      refine am_iload_n dX5_takeHere_65 rfl ?_
      exact am_ireturn dX5_takeHere_66 rfl ⟨_, _, rfl, rfl, hw⟩
    · have hw := hw.2 c3
      refine am_aload_n dX5_takeHere_35 rfl ?_
      refine am_getf dX5_takeHere_36 fl_X5_45 rfl rfl ?_
      refine am_iconst dX5_takeHere_39 ic_4 ?_
      refine am_iload_n dX5_takeHere_40 rfl ?_
      refine am_imul dX5_takeHere_41 ?_
      refine am_iload dX5_takeHere_42 rfl ?_
      refine am_iadd dX5_takeHere_44 ?_
      refine am_aload_n dX5_takeHere_45 rfl ?_
      refine am_getf dX5_takeHere_46 fl_X5_45 rfl rfl ?_
      refine am_iconst dX5_takeHere_49 ic_4 ?_
      refine am_iload_n dX5_takeHere_50 rfl ?_
      refine am_imul dX5_takeHere_51 ?_
      refine am_iload dX5_takeHere_52 rfl ?_
      refine am_iadd dX5_takeHere_54 ?_
      refine am_iconst dX5_takeHere_55 ic_1 ?_
      refine am_iadd dX5_takeHere_56 ?_
      refine am_iaload dX5_takeHere_57 rfl hw.1 ?_
      have hw := hw.2
      refine am_iastore' (F := fX5) (m := mu_up m0 16 ((((4 : Int32) * v1) + v4)).toNatClampNeg (m0 16 (((((4 : Int32) * v1) + v4) + (1 : Int32))).toNatClampNeg)) dX5_takeHere_58 rfl hw.1 rfl (fun m4 em4 => ?_)
      have hw := hw.2 m4 em4
      refine am_iinc' (lf := fun y9 => [some (.ref 0), some (.int v1), none, some (.int v3), some (.int y9)]) dX5_takeHere_59 rfl rfl rfl ic_1 (fun _ => rfl) (fun x5 ex5 => ?_)
      have hw := hw x5 ex5
      refine am_goto 24 dX5_takeHere_62 (by decide) ?_
      refine am_forget (ls' := [some (.ref 0), some (.int v1), none, some (.int v3), some (.int x5)]) [true, true, false, true, true] rfl ?_
      exact ih _ _ _ _ hw
def wX5_takeHere (a1 a2 : Int32) (m0 : Mu) (K : Int32 → Mu → Prop) : Prop := (vp_in (((4 : Int32) * a1) + a2) 24 ∧ ∀ x1 : Int32, x1 = (m0 16 ((((4 : Int32) * a1) + a2)).toNatClampNeg) → (vp_in a1 6 ∧ (vp_in a1 6 ∧ ∀ m2 : Mu, m2 = mu_up m0 17 (a1).toNatClampNeg ((m0 17 (a1).toNatClampNeg) - (1 : Int32)) → (∃ n6 : Nat, lpX5_takeHere_24 K n6 a1 x1 a2 m2))))
set_option maxRecDepth 20000 in
theorem sX5_takeHere {a1 a2 : Int32} {m0 : Mu} {K : Int32 → Mu → Prop} (hw : wX5_takeHere a1 a2 m0 K) : am_Met mX5_takeHere [.ref 0, .int a1, .int a2] (fX5 m0) 0 0 (zI fX5 K) := by
  unfold wX5_takeHere at hw
  refine am_Met.of2 (ls := [some (.ref 0), some (.int a1), some (.int a2), none, none]) pf_X5_takeHere rfl rfl rfl rfl ?_
  refine am_aload_n dX5_takeHere_0 rfl ?_
  refine am_getf dX5_takeHere_1 fl_X5_45 rfl rfl ?_
  refine am_iconst dX5_takeHere_4 ic_4 ?_
  refine am_iload_n dX5_takeHere_5 rfl ?_
  refine am_imul dX5_takeHere_6 ?_
  refine am_iload_n dX5_takeHere_7 rfl ?_
  refine am_iadd dX5_takeHere_8 ?_
  refine am_iaload dX5_takeHere_9 rfl hw.1 ?_
  have hw := hw.2
  refine am_top (fun x1 ex1 => ?_)
  have hw := hw x1 ex1
  refine am_istore_n' (ls' := [some (.ref 0), some (.int a1), some (.int a2), some (.int x1), none]) dX5_takeHere_10 rfl rfl rfl ?_
  refine am_aload_n dX5_takeHere_11 rfl ?_
  refine am_getf dX5_takeHere_12 fl_X5_48 rfl rfl ?_
  refine am_iload_n dX5_takeHere_15 rfl ?_
  refine am_dup2 dX5_takeHere_16 rfl rfl ?_
  refine am_iaload dX5_takeHere_17 rfl hw.1 ?_
  have hw := hw.2
  refine am_iconst dX5_takeHere_18 ic_1 ?_
  refine am_isub dX5_takeHere_19 ?_
  refine am_iastore' (F := fX5) (m := mu_up m0 17 (a1).toNatClampNeg ((m0 17 (a1).toNatClampNeg) - (1 : Int32))) dX5_takeHere_20 rfl hw.1 rfl (fun m2 em2 => ?_)
  have hw := hw.2 m2 em2
  refine am_iload_n dX5_takeHere_21 rfl ?_
  refine am_istore' (ls' := [some (.ref 0), some (.int a1), some (.int a2), some (.int x1), some (.int a2)]) dX5_takeHere_22 rfl rfl rfl ?_
  obtain ⟨n6, hw⟩ := hw
  refine am_forget (ls' := [some (.ref 0), some (.int a1), none, some (.int x1), some (.int a2)]) [true, true, false, true, true] rfl ?_
  exact slpX5_takeHere_24  n6 _ _ _ _ hw

def lpX5_behind_278 (K : Int32 → Mu → Prop)  : Nat → Int32 → Int32 → Int32 → Int32 → Int32 → Int32 → Mu → Prop
  | 0, _, _, _, _, _, _, _ => False
  | n + 1, v4, v5, v6, v8, v9, v12, m0 => ((v6 ≤ v12 → wX5_numberOf m0 (fun r20 : Int32 => K r20 m0)) ∧ (¬ v6 ≤ v12 → ((v4 = 0 → ((v5 = 0 → wX5_takeHere (0 : Int32) ((v6 - (1 : Int32)) - v12) m0 (fun (r23 : Int32) (m24 : Mu) => wX5_insertHere v9 v12 r23 m24 (fun m25 : Mu => ∀ x26 : Int32, x26 = v12 + (1 : Int32) → lpX5_behind_278 K n v4 v5 v6 v8 v9 x26 m25))) ∧ (¬ v5 = 0 → (vp_in (0 : Int32) 6 ∧ wX5_takeHere (0 : Int32) (((m0 17 ((0 : Int32)).toNatClampNeg) - v6) + v12) m0 (fun (r27 : Int32) (m28 : Mu) => wX5_insertHere v9 v12 r27 m28 (fun m29 : Mu => ∀ x30 : Int32, x30 = v12 + (1 : Int32) → lpX5_behind_278 K n v4 v5 v6 v8 v9 x30 m29)))))) ∧ (¬ v4 = 0 → wX5_takeHere v8 (0 : Int32) m0 (fun (r31 : Int32) (m32 : Mu) => ((v5 = 0 → wX5_insertHere (0 : Int32) (0 : Int32) r31 m32 (fun m34 : Mu => ∀ x35 : Int32, x35 = v12 + (1 : Int32) → lpX5_behind_278 K n v4 v5 v6 v8 v9 x35 m34)) ∧ (¬ v5 = 0 → (vp_in (0 : Int32) 6 ∧ wX5_insertHere (0 : Int32) (m32 17 ((0 : Int32)).toNatClampNeg) r31 m32 (fun m36 : Mu => ∀ x37 : Int32, x37 = v12 + (1 : Int32) → lpX5_behind_278 K n v4 v5 v6 v8 v9 x37 m36)))))))))
set_option maxRecDepth 20000 in
theorem slpX5_behind_278 {K : Int32 → Mu → Prop} : ∀ (n : Nat) (v4 v5 v6 v8 v9 v12 : Int32) (m0 : Mu), lpX5_behind_278 K n v4 v5 v6 v8 v9 v12 m0 → am_Ok mX5_behind none (zI fX5 K) 0 0 278 [some (.ref 0), none, none, none, some (.int v4), some (.int v5), some (.int v6), none, some (.int v8), some (.int v9), none, none, some (.int v12), none] [] (fX5 m0) := by
  intro n
  induction n with
  | zero => intro v4 v5 v6 v8 v9 v12 m0 hw; exact False.elim hw
  | succ n ih =>
    intro v4 v5 v6 v8 v9 v12 m0 hw
    unfold lpX5_behind_278 at hw
    refine am_iload dX5_behind_278 rfl ?_
    refine am_iload dX5_behind_280 rfl ?_
    refine am_icmp_ge 374 dX5_behind_282 (by decide) (fun c19 => ?_) (fun c19 => ?_)
    · have hw := hw.1 c19
      refine am_aload_n dX5_behind_374 rfl ?_
      refine am_selfP fam_X5 rfl dX5_behind_375 q_X5_behind_171 rfl (sX5_numberOf hw) rfl rfl rfl rfl rfl (fun r20 hw => ?_)
      exact am_ireturn dX5_behind_378 rfl ⟨_, _, rfl, rfl, hw⟩
    · have hw := hw.2 c19
      refine am_iload dX5_behind_285 rfl ?_
      refine am_if_eq 324 dX5_behind_287 (by decide) (fun c21 => ?_) (fun c21 => ?_)
      · have hw := hw.1 c21
        refine am_aload_n dX5_behind_324 rfl ?_
        refine am_iconst dX5_behind_325 ic_0 ?_
        refine am_iload dX5_behind_326 rfl ?_
        refine am_if_ne 341 dX5_behind_328 (by decide) (fun c22 => ?_) (fun c22 => ?_)
        · have hw := hw.1 c22
          refine am_iload dX5_behind_331 rfl ?_
          refine am_iconst dX5_behind_333 ic_1 ?_
          refine am_isub dX5_behind_334 ?_
          refine am_iload dX5_behind_335 rfl ?_
          refine am_isub dX5_behind_337 ?_
          refine am_goto 353 dX5_behind_338 (by decide) ?_
          refine am_selfI fam_X5 rfl dX5_behind_353 q_X5_behind_165 rfl (sX5_takeHere hw) rfl rfl rfl rfl rfl (fun r23 m24 hw => ?_)
          refine am_istore' (ls' := [some (.ref 0), none, none, none, some (.int v4), some (.int v5), some (.int v6), none, some (.int v8), some (.int v9), none, none, some (.int v12), some (.int r23)]) dX5_behind_356 rfl rfl rfl ?_
          refine am_aload_n dX5_behind_358 rfl ?_
          refine am_iload dX5_behind_359 rfl ?_
          refine am_iload dX5_behind_361 rfl ?_
          refine am_iload dX5_behind_363 rfl ?_
          refine am_selfU fam_X5 rfl dX5_behind_365 q_X5_behind_168 rfl (sX5_insertHere hw) rfl rfl rfl rfl rfl (fun m25 hw => ?_)
          refine am_iinc' (lf := fun y9 => [some (.ref 0), none, none, none, some (.int v4), some (.int v5), some (.int v6), none, some (.int v8), some (.int v9), none, none, some (.int y9), some (.int r23)]) dX5_behind_368 rfl rfl rfl ic_1 (fun _ => rfl) (fun x26 ex26 => ?_)
          have hw := hw x26 ex26
          refine am_goto 278 dX5_behind_371 (by decide) ?_
          refine am_forget (ls' := [some (.ref 0), none, none, none, some (.int v4), some (.int v5), some (.int v6), none, some (.int v8), some (.int v9), none, none, some (.int x26), none]) [true, false, false, false, true, true, true, false, true, true, false, false, true, false] rfl ?_
          exact ih _ _ _ _ _ _ _ hw
        · have hw := hw.2 c22
          refine am_aload_n dX5_behind_341 rfl ?_
          refine am_getf dX5_behind_342 fl_X5_48 rfl rfl ?_
          refine am_iconst dX5_behind_345 ic_0 ?_
          refine am_iaload dX5_behind_346 rfl hw.1 ?_
          have hw := hw.2
          refine am_iload dX5_behind_347 rfl ?_
          refine am_isub dX5_behind_349 ?_
          refine am_iload dX5_behind_350 rfl ?_
          refine am_iadd dX5_behind_352 ?_
          refine am_selfI fam_X5 rfl dX5_behind_353 q_X5_behind_165 rfl (sX5_takeHere hw) rfl rfl rfl rfl rfl (fun r27 m28 hw => ?_)
          refine am_istore' (ls' := [some (.ref 0), none, none, none, some (.int v4), some (.int v5), some (.int v6), none, some (.int v8), some (.int v9), none, none, some (.int v12), some (.int r27)]) dX5_behind_356 rfl rfl rfl ?_
          refine am_aload_n dX5_behind_358 rfl ?_
          refine am_iload dX5_behind_359 rfl ?_
          refine am_iload dX5_behind_361 rfl ?_
          refine am_iload dX5_behind_363 rfl ?_
          refine am_selfU fam_X5 rfl dX5_behind_365 q_X5_behind_168 rfl (sX5_insertHere hw) rfl rfl rfl rfl rfl (fun m29 hw => ?_)
          refine am_iinc' (lf := fun y9 => [some (.ref 0), none, none, none, some (.int v4), some (.int v5), some (.int v6), none, some (.int v8), some (.int v9), none, none, some (.int y9), some (.int r27)]) dX5_behind_368 rfl rfl rfl ic_1 (fun _ => rfl) (fun x30 ex30 => ?_)
          have hw := hw x30 ex30
          refine am_goto 278 dX5_behind_371 (by decide) ?_
          refine am_forget (ls' := [some (.ref 0), none, none, none, some (.int v4), some (.int v5), some (.int v6), none, some (.int v8), some (.int v9), none, none, some (.int x30), none]) [true, false, false, false, true, true, true, false, true, true, false, false, true, false] rfl ?_
          exact ih _ _ _ _ _ _ _ hw
      · have hw := hw.2 c21
        refine am_aload_n dX5_behind_290 rfl ?_
        refine am_iload dX5_behind_291 rfl ?_
        refine am_iconst dX5_behind_293 ic_0 ?_
        refine am_selfI fam_X5 rfl dX5_behind_294 q_X5_behind_165 rfl (sX5_takeHere hw) rfl rfl rfl rfl rfl (fun r31 m32 hw => ?_)
        refine am_istore' (ls' := [some (.ref 0), none, none, none, some (.int v4), some (.int v5), some (.int v6), none, some (.int v8), some (.int v9), none, none, some (.int v12), some (.int r31)]) dX5_behind_297 rfl rfl rfl ?_
        refine am_aload_n dX5_behind_299 rfl ?_
        refine am_iconst dX5_behind_300 ic_0 ?_
        refine am_iload dX5_behind_301 rfl ?_
        refine am_if_ne 310 dX5_behind_303 (by decide) (fun c33 => ?_) (fun c33 => ?_)
        · have hw := hw.1 c33
          refine am_iconst dX5_behind_306 ic_0 ?_
          refine am_goto 316 dX5_behind_307 (by decide) ?_
          refine am_iload dX5_behind_316 rfl ?_
          refine am_selfU fam_X5 rfl dX5_behind_318 q_X5_behind_168 rfl (sX5_insertHere hw) rfl rfl rfl rfl rfl (fun m34 hw => ?_)
          refine am_goto 368 dX5_behind_321 (by decide) ?_
          refine am_iinc' (lf := fun y9 => [some (.ref 0), none, none, none, some (.int v4), some (.int v5), some (.int v6), none, some (.int v8), some (.int v9), none, none, some (.int y9), some (.int r31)]) dX5_behind_368 rfl rfl rfl ic_1 (fun _ => rfl) (fun x35 ex35 => ?_)
          have hw := hw x35 ex35
          refine am_goto 278 dX5_behind_371 (by decide) ?_
          refine am_forget (ls' := [some (.ref 0), none, none, none, some (.int v4), some (.int v5), some (.int v6), none, some (.int v8), some (.int v9), none, none, some (.int x35), none]) [true, false, false, false, true, true, true, false, true, true, false, false, true, false] rfl ?_
          exact ih _ _ _ _ _ _ _ hw
        · have hw := hw.2 c33
          refine am_aload_n dX5_behind_310 rfl ?_
          refine am_getf dX5_behind_311 fl_X5_48 rfl rfl ?_
          refine am_iconst dX5_behind_314 ic_0 ?_
          refine am_iaload dX5_behind_315 rfl hw.1 ?_
          have hw := hw.2
          refine am_iload dX5_behind_316 rfl ?_
          refine am_selfU fam_X5 rfl dX5_behind_318 q_X5_behind_168 rfl (sX5_insertHere hw) rfl rfl rfl rfl rfl (fun m36 hw => ?_)
          refine am_goto 368 dX5_behind_321 (by decide) ?_
          refine am_iinc' (lf := fun y9 => [some (.ref 0), none, none, none, some (.int v4), some (.int v5), some (.int v6), none, some (.int v8), some (.int v9), none, none, some (.int y9), some (.int r31)]) dX5_behind_368 rfl rfl rfl ic_1 (fun _ => rfl) (fun x37 ex37 => ?_)
          have hw := hw x37 ex37
          refine am_goto 278 dX5_behind_371 (by decide) ?_
          refine am_forget (ls' := [some (.ref 0), none, none, none, some (.int v4), some (.int v5), some (.int v6), none, some (.int v8), some (.int v9), none, none, some (.int x37), none]) [true, false, false, false, true, true, true, false, true, true, false, false, true, false] rfl ?_
          exact ih _ _ _ _ _ _ _ hw
def lpX5_behind_174 (K : Int32 → Mu → Prop)  : Nat → Int32 → Int32 → Int32 → Int32 → Int32 → Int32 → Int32 → Int32 → Mu → Prop
  | 0, _, _, _, _, _, _, _, _, _ => False
  | n + 1, v4, v5, v6, v8, v9, v10, v11, v12, m0 => (((v10 + v6) ≤ v12 → ((v11 = 0 → K (-11 : Int32) m0) ∧ (¬ v11 = 0 → wX5_sum v8 v10 v6 m0 (fun r16 : Int32 => (vp_in v9 6 ∧ wX5_sum v9 (0 : Int32) (m0 17 (v9).toNatClampNeg) m0 (fun r17 : Int32 => (vp_in v9 6 ∧ (vp_in ((0 : Int32) + (m0 14 (v9).toNatClampNeg)) 148 ∧ (((r16 + r17) ≤ (m0 0 (((0 : Int32) + (m0 14 (v9).toNatClampNeg))).toNatClampNeg) → (∃ n38 : Nat, lpX5_behind_278 K n38 v4 v5 v6 v8 v9 (0 : Int32) m0)) ∧ (¬ (r16 + r17) ≤ (m0 0 (((0 : Int32) + (m0 14 (v9).toNatClampNeg))).toNatClampNeg) → K (-11 : Int32) m0)))))))))) ∧ (¬ (v10 + v6) ≤ v12 → ((v11 = 0 → (vp_in (((4 : Int32) * v8) + v12) 24 ∧ (vp_in ((23 : Int32) + (m0 16 ((((4 : Int32) * v8) + v12)).toNatClampNeg)) 148 ∧ (((m0 0 (((23 : Int32) + (m0 16 ((((4 : Int32) * v8) + v12)).toNatClampNeg))).toNatClampNeg) = 0 → ∀ x41 : Int32, x41 = v12 + (1 : Int32) → lpX5_behind_174 K n v4 v5 v6 v8 v9 v10 (1 : Int32) x41 m0) ∧ (¬ (m0 0 (((23 : Int32) + (m0 16 ((((4 : Int32) * v8) + v12)).toNatClampNeg))).toNatClampNeg) = 0 → ∀ x42 : Int32, x42 = v12 + (1 : Int32) → lpX5_behind_174 K n v4 v5 v6 v8 v9 v10 (0 : Int32) x42 m0))))) ∧ (¬ v11 = 0 → ∀ x43 : Int32, x43 = v12 + (1 : Int32) → lpX5_behind_174 K n v4 v5 v6 v8 v9 v10 (1 : Int32) x43 m0))))
set_option maxRecDepth 20000 in
theorem slpX5_behind_174 {K : Int32 → Mu → Prop} : ∀ (n : Nat) (v4 v5 v6 v8 v9 v10 v11 v12 : Int32) (m0 : Mu), lpX5_behind_174 K n v4 v5 v6 v8 v9 v10 v11 v12 m0 → am_Ok mX5_behind none (zI fX5 K) 0 0 174 [some (.ref 0), none, none, none, some (.int v4), some (.int v5), some (.int v6), none, some (.int v8), some (.int v9), some (.int v10), some (.int v11), some (.int v12), none] [] (fX5 m0) := by
  intro n
  induction n with
  | zero => intro v4 v5 v6 v8 v9 v10 v11 v12 m0 hw; exact False.elim hw
  | succ n ih =>
    intro v4 v5 v6 v8 v9 v10 v11 v12 m0 hw
    unfold lpX5_behind_174 at hw
    refine am_iload dX5_behind_174 rfl ?_
    refine am_iload dX5_behind_176 rfl ?_
    refine am_iload dX5_behind_178 rfl ?_
    refine am_iadd dX5_behind_180 ?_
    refine am_icmp_ge 225 dX5_behind_181 (by decide) (fun c14 => ?_) (fun c14 => ?_)
    · have hw := hw.1 c14
      refine am_iload dX5_behind_225 rfl ?_
      refine am_if_eq 272 dX5_behind_227 (by decide) (fun c15 => ?_) (fun c15 => ?_)
      · have hw := hw.1 c15
        refine am_bipush dX5_behind_272 bc_m11 ?_
        exact am_ireturn dX5_behind_274 rfl ⟨_, _, rfl, rfl, hw⟩
      · have hw := hw.2 c15
        refine am_aload_n dX5_behind_230 rfl ?_
        refine am_iload dX5_behind_231 rfl ?_
        refine am_iload dX5_behind_233 rfl ?_
        refine am_iload dX5_behind_235 rfl ?_
        refine am_selfP fam_X5 rfl dX5_behind_237 q_X5_behind_158 rfl (sX5_sum hw) rfl rfl rfl rfl rfl (fun r16 hw => ?_)
        refine am_aload_n dX5_behind_240 rfl ?_
        refine am_iload dX5_behind_241 rfl ?_
        refine am_iconst dX5_behind_243 ic_0 ?_
        refine am_aload_n dX5_behind_244 rfl ?_
        refine am_getf dX5_behind_245 fl_X5_48 rfl rfl ?_
        refine am_iload dX5_behind_248 rfl ?_
        refine am_iaload dX5_behind_250 rfl hw.1 ?_
        have hw := hw.2
        refine am_selfP fam_X5 rfl dX5_behind_251 q_X5_behind_158 rfl (sX5_sum hw) rfl rfl rfl rfl rfl (fun r17 hw => ?_)
        refine am_iadd dX5_behind_254 ?_
        refine am_aload_n dX5_behind_255 rfl ?_
        refine am_getf dX5_behind_256 fl_X5_7 rfl rfl ?_
        refine am_iconst dX5_behind_259 ic_0 ?_
        refine am_aload_n dX5_behind_260 rfl ?_
        refine am_getf dX5_behind_261 fl_X5_39 rfl rfl ?_
        refine am_iload dX5_behind_264 rfl ?_
        refine am_iaload dX5_behind_266 rfl hw.1 ?_
        have hw := hw.2
        refine am_iadd dX5_behind_267 ?_
        refine am_iaload dX5_behind_268 rfl hw.1 ?_
        have hw := hw.2
        refine am_icmp_le 275 dX5_behind_269 (by decide) (fun c18 => ?_) (fun c18 => ?_)
        · have hw := hw.1 c18
          refine am_iconst dX5_behind_275 ic_0 ?_
          refine am_istore' (ls' := [some (.ref 0), none, none, none, some (.int v4), some (.int v5), some (.int v6), none, some (.int v8), some (.int v9), some (.int v10), some (.int v11), some (.int (0 : Int32)), none]) dX5_behind_276 rfl rfl rfl ?_
          obtain ⟨n38, hw⟩ := hw
          refine am_forget (ls' := [some (.ref 0), none, none, none, some (.int v4), some (.int v5), some (.int v6), none, some (.int v8), some (.int v9), none, none, some (.int (0 : Int32)), none]) [true, false, false, false, true, true, true, false, true, true, false, false, true, false] rfl ?_
          exact slpX5_behind_278  n38 _ _ _ _ _ _ _ hw
        · have hw := hw.2 c18
          refine am_bipush dX5_behind_272 bc_m11 ?_
          exact am_ireturn dX5_behind_274 rfl ⟨_, _, rfl, rfl, hw⟩
    · have hw := hw.2 c14
      refine am_iload dX5_behind_184 rfl ?_
      refine am_if_ne 212 dX5_behind_186 (by decide) (fun c39 => ?_) (fun c39 => ?_)
      · have hw := hw.1 c39
        refine am_aload_n dX5_behind_189 rfl ?_
        refine am_getf dX5_behind_190 fl_X5_7 rfl rfl ?_
        refine am_bipush dX5_behind_193 bc_23 ?_
        refine am_aload_n dX5_behind_195 rfl ?_
        refine am_getf dX5_behind_196 fl_X5_45 rfl rfl ?_
        refine am_iconst dX5_behind_199 ic_4 ?_
        refine am_iload dX5_behind_200 rfl ?_
        refine am_imul dX5_behind_202 ?_
        refine am_iload dX5_behind_203 rfl ?_
        refine am_iadd dX5_behind_205 ?_
        refine am_iaload dX5_behind_206 rfl hw.1 ?_
        have hw := hw.2
        refine am_iadd dX5_behind_207 ?_
        refine am_iaload dX5_behind_208 rfl hw.1 ?_
        have hw := hw.2
        refine am_if_ne 216 dX5_behind_209 (by decide) (fun c40 => ?_) (fun c40 => ?_)
        · have hw := hw.1 c40
          refine am_iconst dX5_behind_212 ic_1 ?_
          refine am_goto 217 dX5_behind_213 (by decide) ?_
          refine am_istore' (ls' := [some (.ref 0), none, none, none, some (.int v4), some (.int v5), some (.int v6), none, some (.int v8), some (.int v9), some (.int v10), some (.int (1 : Int32)), some (.int v12), none]) dX5_behind_217 rfl rfl rfl ?_
          refine am_iinc' (lf := fun y9 => [some (.ref 0), none, none, none, some (.int v4), some (.int v5), some (.int v6), none, some (.int v8), some (.int v9), some (.int v10), some (.int (1 : Int32)), some (.int y9), none]) dX5_behind_219 rfl rfl rfl ic_1 (fun _ => rfl) (fun x41 ex41 => ?_)
          have hw := hw x41 ex41
          refine am_goto 174 dX5_behind_222 (by decide) ?_
          refine am_forget (ls' := [some (.ref 0), none, none, none, some (.int v4), some (.int v5), some (.int v6), none, some (.int v8), some (.int v9), some (.int v10), some (.int (1 : Int32)), some (.int x41), none]) [true, false, false, false, true, true, true, false, true, true, true, true, true, false] rfl ?_
          exact ih _ _ _ _ _ _ _ _ _ hw
        · have hw := hw.2 c40
          refine am_iconst dX5_behind_216 ic_0 ?_
          refine am_istore' (ls' := [some (.ref 0), none, none, none, some (.int v4), some (.int v5), some (.int v6), none, some (.int v8), some (.int v9), some (.int v10), some (.int (0 : Int32)), some (.int v12), none]) dX5_behind_217 rfl rfl rfl ?_
          refine am_iinc' (lf := fun y9 => [some (.ref 0), none, none, none, some (.int v4), some (.int v5), some (.int v6), none, some (.int v8), some (.int v9), some (.int v10), some (.int (0 : Int32)), some (.int y9), none]) dX5_behind_219 rfl rfl rfl ic_1 (fun _ => rfl) (fun x42 ex42 => ?_)
          have hw := hw x42 ex42
          refine am_goto 174 dX5_behind_222 (by decide) ?_
          refine am_forget (ls' := [some (.ref 0), none, none, none, some (.int v4), some (.int v5), some (.int v6), none, some (.int v8), some (.int v9), some (.int v10), some (.int (0 : Int32)), some (.int x42), none]) [true, false, false, false, true, true, true, false, true, true, true, true, true, false] rfl ?_
          exact ih _ _ _ _ _ _ _ _ _ hw
      · have hw := hw.2 c39
        refine am_iconst dX5_behind_212 ic_1 ?_
        refine am_goto 217 dX5_behind_213 (by decide) ?_
        refine am_istore' (ls' := [some (.ref 0), none, none, none, some (.int v4), some (.int v5), some (.int v6), none, some (.int v8), some (.int v9), some (.int v10), some (.int (1 : Int32)), some (.int v12), none]) dX5_behind_217 rfl rfl rfl ?_
        refine am_iinc' (lf := fun y9 => [some (.ref 0), none, none, none, some (.int v4), some (.int v5), some (.int v6), none, some (.int v8), some (.int v9), some (.int v10), some (.int (1 : Int32)), some (.int y9), none]) dX5_behind_219 rfl rfl rfl ic_1 (fun _ => rfl) (fun x43 ex43 => ?_)
        have hw := hw x43 ex43
        refine am_goto 174 dX5_behind_222 (by decide) ?_
        refine am_forget (ls' := [some (.ref 0), none, none, none, some (.int v4), some (.int v5), some (.int v6), none, some (.int v8), some (.int v9), some (.int v10), some (.int (1 : Int32)), some (.int x43), none]) [true, false, false, false, true, true, true, false, true, true, true, true, true, false] rfl ?_
        exact ih _ _ _ _ _ _ _ _ _ hw
def jnX5_behind_125 (K : Int32 → Mu → Prop) (v4 v5 v6 v8 u0 : Int32) (m0 : Mu) : Prop := (vp_in v8 6 ∧ ((v6 ≤ (m0 17 (v8).toNatClampNeg) → ((v4 = 0 → ((v5 = 0 → (∃ n44 : Nat, lpX5_behind_174 K n44 v4 v5 v6 v8 u0 (0 : Int32) (0 : Int32) (0 : Int32) m0)) ∧ (¬ v5 = 0 → (vp_in (0 : Int32) 6 ∧ ∀ x45 : Int32, x45 = ((m0 17 ((0 : Int32)).toNatClampNeg) - v6) → (∃ n46 : Nat, lpX5_behind_174 K n46 v4 v5 v6 v8 u0 x45 (0 : Int32) x45 m0))))) ∧ (¬ v4 = 0 → (∃ n47 : Nat, lpX5_behind_174 K n47 v4 v5 v6 v8 u0 (0 : Int32) (0 : Int32) (0 : Int32) m0)))) ∧ (¬ v6 ≤ (m0 17 (v8).toNatClampNeg) → K (-11 : Int32) m0)))
set_option maxRecDepth 20000 in
theorem sjnX5_behind_125 {m0 : Mu} {K : Int32 → Mu → Prop} {v4 v5 v6 v8 u0 : Int32} (hw : jnX5_behind_125 K v4 v5 v6 v8 u0 m0) : am_Ok mX5_behind none (zI fX5 K) 0 0 125 [some (.ref 0), none, none, none, some (.int v4), some (.int v5), some (.int v6), none, some (.int v8), none, none, none, none, none] [.int u0] (fX5 m0) := by
  unfold jnX5_behind_125 at hw
  refine am_istore' (ls' := [some (.ref 0), none, none, none, some (.int v4), some (.int v5), some (.int v6), none, some (.int v8), some (.int u0), none, none, none, none]) dX5_behind_125 rfl rfl rfl ?_
  refine am_aload_n dX5_behind_127 rfl ?_
  refine am_getf dX5_behind_128 fl_X5_48 rfl rfl ?_
  refine am_iload dX5_behind_131 rfl ?_
  refine am_iaload dX5_behind_133 rfl hw.1 ?_
  have hw := hw.2
  refine am_iload dX5_behind_134 rfl ?_
  refine am_icmp_ge 142 dX5_behind_136 (by decide) (fun c11 => ?_) (fun c11 => ?_)
  · have hw := hw.1 c11
    refine am_iload dX5_behind_142 rfl ?_
    refine am_if_ne 152 dX5_behind_144 (by decide) (fun c12 => ?_) (fun c12 => ?_)
    · have hw := hw.1 c12
      refine am_iload dX5_behind_147 rfl ?_
      refine am_if_ne 156 dX5_behind_149 (by decide) (fun c13 => ?_) (fun c13 => ?_)
      · have hw := hw.1 c13
        refine am_iconst dX5_behind_152 ic_0 ?_
        refine am_goto 165 dX5_behind_153 (by decide) ?_
        refine am_istore' (ls' := [some (.ref 0), none, none, none, some (.int v4), some (.int v5), some (.int v6), none, some (.int v8), some (.int u0), some (.int (0 : Int32)), none, none, none]) dX5_behind_165 rfl rfl rfl ?_
        refine am_iconst dX5_behind_167 ic_0 ?_
        refine am_istore' (ls' := [some (.ref 0), none, none, none, some (.int v4), some (.int v5), some (.int v6), none, some (.int v8), some (.int u0), some (.int (0 : Int32)), some (.int (0 : Int32)), none, none]) dX5_behind_168 rfl rfl rfl ?_
        refine am_iload dX5_behind_170 rfl ?_
        refine am_istore' (ls' := [some (.ref 0), none, none, none, some (.int v4), some (.int v5), some (.int v6), none, some (.int v8), some (.int u0), some (.int (0 : Int32)), some (.int (0 : Int32)), some (.int (0 : Int32)), none]) dX5_behind_172 rfl rfl rfl ?_
        obtain ⟨n44, hw⟩ := hw
        refine am_forget (ls' := [some (.ref 0), none, none, none, some (.int v4), some (.int v5), some (.int v6), none, some (.int v8), some (.int u0), some (.int (0 : Int32)), some (.int (0 : Int32)), some (.int (0 : Int32)), none]) [true, false, false, false, true, true, true, false, true, true, true, true, true, false] rfl ?_
        exact slpX5_behind_174  n44 _ _ _ _ _ _ _ _ _ hw
      · have hw := hw.2 c13
        refine am_aload_n dX5_behind_156 rfl ?_
        refine am_getf dX5_behind_157 fl_X5_48 rfl rfl ?_
        refine am_iconst dX5_behind_160 ic_0 ?_
        refine am_iaload dX5_behind_161 rfl hw.1 ?_
        have hw := hw.2
        refine am_iload dX5_behind_162 rfl ?_
        refine am_isub dX5_behind_164 ?_
        refine am_top (fun x45 ex45 => ?_)
        have hw := hw x45 ex45
        refine am_istore' (ls' := [some (.ref 0), none, none, none, some (.int v4), some (.int v5), some (.int v6), none, some (.int v8), some (.int u0), some (.int x45), none, none, none]) dX5_behind_165 rfl rfl rfl ?_
        refine am_iconst dX5_behind_167 ic_0 ?_
        refine am_istore' (ls' := [some (.ref 0), none, none, none, some (.int v4), some (.int v5), some (.int v6), none, some (.int v8), some (.int u0), some (.int x45), some (.int (0 : Int32)), none, none]) dX5_behind_168 rfl rfl rfl ?_
        refine am_iload dX5_behind_170 rfl ?_
        refine am_istore' (ls' := [some (.ref 0), none, none, none, some (.int v4), some (.int v5), some (.int v6), none, some (.int v8), some (.int u0), some (.int x45), some (.int (0 : Int32)), some (.int x45), none]) dX5_behind_172 rfl rfl rfl ?_
        obtain ⟨n46, hw⟩ := hw
        refine am_forget (ls' := [some (.ref 0), none, none, none, some (.int v4), some (.int v5), some (.int v6), none, some (.int v8), some (.int u0), some (.int x45), some (.int (0 : Int32)), some (.int x45), none]) [true, false, false, false, true, true, true, false, true, true, true, true, true, false] rfl ?_
        exact slpX5_behind_174  n46 _ _ _ _ _ _ _ _ _ hw
    · have hw := hw.2 c12
      refine am_iconst dX5_behind_152 ic_0 ?_
      refine am_goto 165 dX5_behind_153 (by decide) ?_
      refine am_istore' (ls' := [some (.ref 0), none, none, none, some (.int v4), some (.int v5), some (.int v6), none, some (.int v8), some (.int u0), some (.int (0 : Int32)), none, none, none]) dX5_behind_165 rfl rfl rfl ?_
      refine am_iconst dX5_behind_167 ic_0 ?_
      refine am_istore' (ls' := [some (.ref 0), none, none, none, some (.int v4), some (.int v5), some (.int v6), none, some (.int v8), some (.int u0), some (.int (0 : Int32)), some (.int (0 : Int32)), none, none]) dX5_behind_168 rfl rfl rfl ?_
      refine am_iload dX5_behind_170 rfl ?_
      refine am_istore' (ls' := [some (.ref 0), none, none, none, some (.int v4), some (.int v5), some (.int v6), none, some (.int v8), some (.int u0), some (.int (0 : Int32)), some (.int (0 : Int32)), some (.int (0 : Int32)), none]) dX5_behind_172 rfl rfl rfl ?_
      obtain ⟨n47, hw⟩ := hw
      refine am_forget (ls' := [some (.ref 0), none, none, none, some (.int v4), some (.int v5), some (.int v6), none, some (.int v8), some (.int u0), some (.int (0 : Int32)), some (.int (0 : Int32)), some (.int (0 : Int32)), none]) [true, false, false, false, true, true, true, false, true, true, true, true, true, false] rfl ?_
      exact slpX5_behind_174  n47 _ _ _ _ _ _ _ _ _ hw
  · have hw := hw.2 c11
    refine am_bipush dX5_behind_139 bc_m11 ?_
    exact am_ireturn dX5_behind_141 rfl ⟨_, _, rfl, rfl, hw⟩
def jnX5_behind_112 (K : Int32 → Mu → Prop) (v4 v5 v6 v7 u0 : Int32) (m0 : Mu) : Prop := ((v4 = 0 → jnX5_behind_125 K v4 v5 v6 u0 v7 m0) ∧ (¬ v4 = 0 → jnX5_behind_125 K v4 v5 v6 u0 (0 : Int32) m0))
set_option maxRecDepth 20000 in
theorem sjnX5_behind_112 {m0 : Mu} {K : Int32 → Mu → Prop} {v4 v5 v6 v7 u0 : Int32} (hw : jnX5_behind_112 K v4 v5 v6 v7 u0 m0) : am_Ok mX5_behind none (zI fX5 K) 0 0 112 [some (.ref 0), none, none, none, some (.int v4), some (.int v5), some (.int v6), some (.int v7), none, none, none, none, none, none] [.int u0] (fX5 m0) := by
  unfold jnX5_behind_112 at hw
  refine am_istore' (ls' := [some (.ref 0), none, none, none, some (.int v4), some (.int v5), some (.int v6), some (.int v7), some (.int u0), none, none, none, none, none]) dX5_behind_112 rfl rfl rfl ?_
  refine am_iload dX5_behind_114 rfl ?_
  refine am_if_eq 123 dX5_behind_116 (by decide) (fun c10 => ?_) (fun c10 => ?_)
  · have hw := hw.1 c10
    refine am_iload dX5_behind_123 rfl ?_
    refine am_forget (ls' := [some (.ref 0), none, none, none, some (.int v4), some (.int v5), some (.int v6), none, some (.int u0), none, none, none, none, none]) [true, false, false, false, true, true, true, false, true, false, false, false, false, false] rfl ?_
    exact sjnX5_behind_125  hw
  · have hw := hw.2 c10
    refine am_iconst dX5_behind_119 ic_0 ?_
    refine am_goto 125 dX5_behind_120 (by decide) ?_
    refine am_forget (ls' := [some (.ref 0), none, none, none, some (.int v4), some (.int v5), some (.int v6), none, some (.int u0), none, none, none, none, none]) [true, false, false, false, true, true, true, false, true, false, false, false, false, false] rfl ?_
    exact sjnX5_behind_125  hw
def jnX5_behind_63 (K : Int32 → Mu → Prop) (v1 v2 v3 v4 u0 : Int32) (m0 : Mu) : Prop := ∀ x5 : Int32, x5 = (am_rem v2 (10 : Int32)) → (vp_in (am_rem (v3 + ((6 : Int32) * u0)) (12 : Int32)) 13 ∧ ∀ x6 : Int32, x6 = (m0 15 ((am_rem (v3 + ((6 : Int32) * u0)) (12 : Int32))).toNatClampNeg) → ((x6 = 0 → K (-11 : Int32) m0) ∧ (¬ x6 = 0 → wX5_layOut v1 m0 (fun m8 : Mu => ((v4 = 0 → jnX5_behind_112 K v4 u0 x5 x6 (0 : Int32) m8) ∧ (¬ v4 = 0 → jnX5_behind_112 K v4 u0 x5 x6 x6 m8))))))
set_option maxRecDepth 20000 in
theorem sjnX5_behind_63 {m0 : Mu} {K : Int32 → Mu → Prop} {v1 v2 v3 v4 u0 : Int32} (hw : jnX5_behind_63 K v1 v2 v3 v4 u0 m0) : am_Ok mX5_behind none (zI fX5 K) 0 0 63 [some (.ref 0), some (.int v1), some (.int v2), some (.int v3), some (.int v4), none, none, none, none, none, none, none, none, none] [.int u0] (fX5 m0) := by
  unfold jnX5_behind_63 at hw
  refine am_istore' (ls' := [some (.ref 0), some (.int v1), some (.int v2), some (.int v3), some (.int v4), some (.int u0), none, none, none, none, none, none, none, none]) dX5_behind_63 rfl rfl rfl ?_
  refine am_iload_n dX5_behind_65 rfl ?_
  refine am_bipush dX5_behind_66 bc_10 ?_
  refine am_irem' dX5_behind_68 nz_10 ?_
  refine am_top (fun x5 ex5 => ?_)
  have hw := hw x5 ex5
  refine am_istore' (ls' := [some (.ref 0), some (.int v1), some (.int v2), some (.int v3), some (.int v4), some (.int u0), some (.int x5), none, none, none, none, none, none, none]) dX5_behind_69 rfl rfl rfl ?_
  refine am_aload_n dX5_behind_71 rfl ?_
  refine am_getf dX5_behind_72 fl_X5_42 rfl rfl ?_
  refine am_iload_n dX5_behind_75 rfl ?_
  refine am_bipush dX5_behind_76 bc_6 ?_
  refine am_iload dX5_behind_78 rfl ?_
  refine am_imul dX5_behind_80 ?_
  refine am_iadd dX5_behind_81 ?_
  refine am_bipush dX5_behind_82 bc_12 ?_
  refine am_irem' dX5_behind_84 nz_12 ?_
  refine am_iaload dX5_behind_85 rfl hw.1 ?_
  have hw := hw.2
  refine am_top (fun x6 ex6 => ?_)
  have hw := hw x6 ex6
  refine am_istore' (ls' := [some (.ref 0), some (.int v1), some (.int v2), some (.int v3), some (.int v4), some (.int u0), some (.int x5), some (.int x6), none, none, none, none, none, none]) dX5_behind_86 rfl rfl rfl ?_
  refine am_iload dX5_behind_88 rfl ?_
  refine am_if_ne 96 dX5_behind_90 (by decide) (fun c7 => ?_) (fun c7 => ?_)
  · have hw := hw.1 c7
    refine am_bipush dX5_behind_93 bc_m11 ?_
    exact am_ireturn dX5_behind_95 rfl ⟨_, _, rfl, rfl, hw⟩
  · have hw := hw.2 c7
    refine am_aload_n dX5_behind_96 rfl ?_
    refine am_iload_n dX5_behind_97 rfl ?_
    refine am_selfU fam_X5 rfl dX5_behind_98 q_X5_behind_162 rfl (sX5_layOut hw) rfl rfl rfl rfl rfl (fun m8 hw => ?_)
    refine am_iload dX5_behind_101 rfl ?_
    refine am_if_eq 111 dX5_behind_103 (by decide) (fun c9 => ?_) (fun c9 => ?_)
    · have hw := hw.1 c9
      refine am_iconst dX5_behind_111 ic_0 ?_
      refine am_forget (ls' := [some (.ref 0), none, none, none, some (.int v4), some (.int u0), some (.int x5), some (.int x6), none, none, none, none, none, none]) [true, false, false, false, true, true, true, true, false, false, false, false, false, false] rfl ?_
      exact sjnX5_behind_112  hw
    · have hw := hw.2 c9
      refine am_iload dX5_behind_106 rfl ?_
      refine am_goto 112 dX5_behind_108 (by decide) ?_
      refine am_forget (ls' := [some (.ref 0), none, none, none, some (.int v4), some (.int u0), some (.int x5), some (.int x6), none, none, none, none, none, none]) [true, false, false, false, true, true, true, true, false, false, false, false, false, false] rfl ?_
      exact sjnX5_behind_112  hw
def jnX5_behind_41 (K : Int32 → Mu → Prop) (v1 v2 v3 u0 : Int32) (m0 : Mu) : Prop := ((u0 = 0 → jnX5_behind_63 K v1 v2 v3 u0 ((v2 / (10 : Int32)) - (3 : Int32)) m0) ∧ (¬ u0 = 0 → jnX5_behind_63 K v1 v2 v3 u0 ((v2 / (10 : Int32)) - (1 : Int32)) m0))
set_option maxRecDepth 20000 in
theorem sjnX5_behind_41 {m0 : Mu} {K : Int32 → Mu → Prop} {v1 v2 v3 u0 : Int32} (hw : jnX5_behind_41 K v1 v2 v3 u0 m0) : am_Ok mX5_behind none (zI fX5 K) 0 0 41 [some (.ref 0), some (.int v1), some (.int v2), some (.int v3), none, none, none, none, none, none, none, none, none, none] [.int u0] (fX5 m0) := by
  unfold jnX5_behind_41 at hw
  refine am_istore' (ls' := [some (.ref 0), some (.int v1), some (.int v2), some (.int v3), some (.int u0), none, none, none, none, none, none, none, none, none]) dX5_behind_41 rfl rfl rfl ?_
  refine am_iload dX5_behind_43 rfl ?_
  refine am_if_eq 57 dX5_behind_45 (by decide) (fun c4 => ?_) (fun c4 => ?_)
  · have hw := hw.1 c4
    refine am_iload_n dX5_behind_57 rfl ?_
    refine am_bipush dX5_behind_58 bc_10 ?_
    refine am_idiv dX5_behind_60 nz_10 ?_
    refine am_iconst dX5_behind_61 ic_3 ?_
    refine am_isub dX5_behind_62 ?_
    refine am_forget (ls' := [some (.ref 0), some (.int v1), some (.int v2), some (.int v3), some (.int u0), none, none, none, none, none, none, none, none, none]) [true, true, true, true, true, false, false, false, false, false, false, false, false, false] rfl ?_
    exact sjnX5_behind_63  hw
  · have hw := hw.2 c4
    refine am_iload_n dX5_behind_48 rfl ?_
    refine am_bipush dX5_behind_49 bc_10 ?_
    refine am_idiv dX5_behind_51 nz_10 ?_
    refine am_iconst dX5_behind_52 ic_1 ?_
    refine am_isub dX5_behind_53 ?_
    refine am_goto 63 dX5_behind_54 (by decide) ?_
    refine am_forget (ls' := [some (.ref 0), some (.int v1), some (.int v2), some (.int v3), some (.int u0), none, none, none, none, none, none, none, none, none]) [true, true, true, true, true, false, false, false, false, false, false, false, false, false] rfl ?_
    exact sjnX5_behind_63  hw
def wX5_behind (a1 a2 : Int32) (m0 : Mu) (K : Int32 → Mu → Prop) : Prop := ∀ x1 : Int32, x1 = (am_rem a1 (12 : Int32)) → (((2 : Int32) ≤ a2 → (((30 : Int32) ≤ a2 → jnX5_behind_41 K a1 a2 x1 (0 : Int32) m0) ∧ (¬ (30 : Int32) ≤ a2 → jnX5_behind_41 K a1 a2 x1 (1 : Int32) m0))) ∧ (¬ (2 : Int32) ≤ a2 → ((a2 = 0 → K ((a1 - x1) + (am_rem (x1 + (1 : Int32)) (12 : Int32))) m0) ∧ (¬ a2 = 0 → K ((a1 - x1) + (am_rem (x1 + (11 : Int32)) (12 : Int32))) m0))))
set_option maxRecDepth 20000 in
theorem sX5_behind {a1 a2 : Int32} {m0 : Mu} {K : Int32 → Mu → Prop} (hw : wX5_behind a1 a2 m0 K) : am_Met mX5_behind [.ref 0, .int a1, .int a2] (fX5 m0) 0 0 (zI fX5 K) := by
  unfold wX5_behind at hw
  refine am_Met.of2 (ls := [some (.ref 0), some (.int a1), some (.int a2), none, none, none, none, none, none, none, none, none, none, none]) pf_X5_behind rfl rfl rfl rfl ?_
  refine am_iload_n dX5_behind_0 rfl ?_
  refine am_bipush dX5_behind_1 bc_12 ?_
  refine am_irem' dX5_behind_3 nz_12 ?_
  refine am_top (fun x1 ex1 => ?_)
  have hw := hw x1 ex1
  refine am_istore_n' (ls' := [some (.ref 0), some (.int a1), some (.int a2), some (.int x1), none, none, none, none, none, none, none, none, none, none]) dX5_behind_4 rfl rfl rfl ?_
  refine am_iload_n dX5_behind_5 rfl ?_
  refine am_iconst dX5_behind_6 ic_2 ?_
  refine am_icmp_ge 30 dX5_behind_7 (by decide) (fun c2 => ?_) (fun c2 => ?_)
  · have hw := hw.1 c2
    refine am_iload_n dX5_behind_30 rfl ?_
    refine am_bipush dX5_behind_31 bc_30 ?_
    refine am_icmp_ge 40 dX5_behind_33 (by decide) (fun c3 => ?_) (fun c3 => ?_)
    · have hw := hw.1 c3
      refine am_iconst dX5_behind_40 ic_0 ?_
      refine am_forget (ls' := [some (.ref 0), some (.int a1), some (.int a2), some (.int x1), none, none, none, none, none, none, none, none, none, none]) [true, true, true, true, false, false, false, false, false, false, false, false, false, false] rfl ?_
      exact sjnX5_behind_41  hw
    · have hw := hw.2 c3
      refine am_iconst dX5_behind_36 ic_1 ?_
      refine am_goto 41 dX5_behind_37 (by decide) ?_
      refine am_forget (ls' := [some (.ref 0), some (.int a1), some (.int a2), some (.int x1), none, none, none, none, none, none, none, none, none, none]) [true, true, true, true, false, false, false, false, false, false, false, false, false, false] rfl ?_
      exact sjnX5_behind_41  hw
  · have hw := hw.2 c2
    refine am_iload_n dX5_behind_10 rfl ?_
    refine am_iload_n dX5_behind_11 rfl ?_
    refine am_isub dX5_behind_12 ?_
    refine am_iload_n dX5_behind_13 rfl ?_
    refine am_iload_n dX5_behind_14 rfl ?_
    refine am_if_ne 22 dX5_behind_15 (by decide) (fun c48 => ?_) (fun c48 => ?_)
    · have hw := hw.1 c48
      refine am_iconst dX5_behind_18 ic_1 ?_
      refine am_goto 24 dX5_behind_19 (by decide) ?_
      refine am_iadd dX5_behind_24 ?_
      refine am_bipush dX5_behind_25 bc_12 ?_
      refine am_irem' dX5_behind_27 nz_12 ?_
      refine am_iadd dX5_behind_28 ?_
      exact am_ireturn dX5_behind_29 rfl ⟨_, _, rfl, rfl, hw⟩
    · have hw := hw.2 c48
      refine am_bipush dX5_behind_22 bc_11 ?_
      refine am_iadd dX5_behind_24 ?_
      refine am_bipush dX5_behind_25 bc_12 ?_
      refine am_irem' dX5_behind_27 nz_12 ?_
      refine am_iadd dX5_behind_28 ?_
      exact am_ireturn dX5_behind_29 rfl ⟨_, _, rfl, rfl, hw⟩

def wX5_addTurned (a1 a2 a3 : Int32) (m0 : Mu) (K : Mu → Prop) : Prop := (vp_in a1 4032 ∧ (((m0 21 (a1).toNatClampNeg) = 0 → (vp_in a1 4032 ∧ (((m0 27 (a1).toNatClampNeg) = a3 → K m0) ∧ (¬ (m0 27 (a1).toNatClampNeg) = a3 → (vp_in a1 4032 ∧ ∀ m3 : Mu, m3 = mu_up m0 27 (a1).toNatClampNeg a3 → (vp_in (m3 32 29) 4032 ∧ ∀ m4 : Mu, m4 = mu_up m3 25 ((m3 32 29)).toNatClampNeg a2 → (vp_in (m4 32 29) 4032 ∧ ∀ m5 : Mu, m5 = mu_up m4 22 ((m4 32 29)).toNatClampNeg a1 → ∀ m6 : Mu, m6 = mu_up m5 32 29 ((m5 32 29) + (1 : Int32)) → K m6))))))) ∧ (¬ (m0 21 (a1).toNatClampNeg) = 0 → K m0)))
set_option maxRecDepth 20000 in
theorem sX5_addTurned {a1 a2 a3 : Int32} {m0 : Mu} {K : Mu → Prop} (hw : wX5_addTurned a1 a2 a3 m0 K) : am_Met mX5_addTurned [.ref 0, .int a1, .int a2, .int a3] (fX5 m0) 0 0 (zV fX5 K) := by
  unfold wX5_addTurned at hw
  refine am_Met.of2 (ls := [some (.ref 0), some (.int a1), some (.int a2), some (.int a3)]) pf_X5_addTurned rfl rfl rfl rfl ?_
  refine am_aload_n dX5_addTurned_0 rfl ?_
  refine am_getf dX5_addTurned_1 fl_X5_57 rfl rfl ?_
  refine am_iload_n dX5_addTurned_4 rfl ?_
  refine am_baload dX5_addTurned_5 rfl hw.1 ?_
  have hw := hw.2
  refine am_if_ne 56 dX5_addTurned_6 (by decide) (fun c1 => ?_) (fun c1 => ?_)
  · have hw := hw.1 c1
    refine am_aload_n dX5_addTurned_9 rfl ?_
    refine am_getf dX5_addTurned_10 fl_X5_75 rfl rfl ?_
    refine am_iload_n dX5_addTurned_13 rfl ?_
    refine am_iaload dX5_addTurned_14 rfl hw.1 ?_
    have hw := hw.2
    refine am_iload_n dX5_addTurned_15 rfl ?_
    refine am_icmp_eq 56 dX5_addTurned_16 (by decide) (fun c2 => ?_) (fun c2 => ?_)
    · have hw := hw.1 c2
      exact am_vreturn dX5_addTurned_56 rfl ⟨_, rfl, rfl, hw⟩
    · have hw := hw.2 c2
      refine am_aload_n dX5_addTurned_19 rfl ?_
      refine am_getf dX5_addTurned_20 fl_X5_75 rfl rfl ?_
      refine am_iload_n dX5_addTurned_23 rfl ?_
      refine am_iload_n dX5_addTurned_24 rfl ?_
      refine am_iastore' (F := fX5) (m := mu_up m0 27 (a1).toNatClampNeg a3) dX5_addTurned_25 rfl hw.1 rfl (fun m3 em3 => ?_)
      have hw := hw.2 m3 em3
      refine am_aload_n dX5_addTurned_26 rfl ?_
      refine am_getf dX5_addTurned_27 fl_X5_69 rfl rfl ?_
      refine am_aload_n dX5_addTurned_30 rfl ?_
      refine am_getf dX5_addTurned_31 fl_X5_175 rfl rfl ?_
      refine am_iload_n dX5_addTurned_34 rfl ?_
      refine am_iastore' (F := fX5) (m := mu_up m3 25 ((m3 32 29)).toNatClampNeg a2) dX5_addTurned_35 rfl hw.1 rfl (fun m4 em4 => ?_)
      have hw := hw.2 m4 em4
      refine am_aload_n dX5_addTurned_36 rfl ?_
      refine am_getf dX5_addTurned_37 fl_X5_60 rfl rfl ?_
      refine am_aload_n dX5_addTurned_40 rfl ?_
      refine am_getf dX5_addTurned_41 fl_X5_175 rfl rfl ?_
      refine am_iload_n dX5_addTurned_44 rfl ?_
      refine am_iastore' (F := fX5) (m := mu_up m4 22 ((m4 32 29)).toNatClampNeg a1) dX5_addTurned_45 rfl hw.1 rfl (fun m5 em5 => ?_)
      have hw := hw.2 m5 em5
      refine am_aload_n dX5_addTurned_46 rfl ?_
      refine am_dup dX5_addTurned_47 rfl ?_
      refine am_getf dX5_addTurned_48 fl_X5_175 rfl rfl ?_
      refine am_iconst dX5_addTurned_51 ic_1 ?_
      refine am_iadd dX5_addTurned_52 ?_
      refine am_putf' (F := fX5) (m := mu_up m5 32 29 ((m5 32 29) + (1 : Int32))) dX5_addTurned_53 fp_X5_175 rfl rfl rfl (fun m6 em6 => ?_)
      have hw := hw m6 em6
      exact am_vreturn dX5_addTurned_56 rfl ⟨_, rfl, rfl, hw⟩
  · have hw := hw.2 c1
    exact am_vreturn dX5_addTurned_56 rfl ⟨_, rfl, rfl, hw⟩

def wX5_addMoved (a1 a2 a3 : Int32) (m0 : Mu) (K : Mu → Prop) : Prop := ((a1 < 0 → K m0) ∧ (¬ a1 < 0 → (vp_in a1 4032 ∧ (((m0 21 (a1).toNatClampNeg) = 0 → (vp_in a1 4032 ∧ (((m0 28 (a1).toNatClampNeg) = a3 → K m0) ∧ (¬ (m0 28 (a1).toNatClampNeg) = a3 → (vp_in a1 4032 ∧ ∀ m4 : Mu, m4 = mu_up m0 28 (a1).toNatClampNeg a3 → (vp_in (m4 32 30) 4032 ∧ ∀ m5 : Mu, m5 = mu_up m4 26 ((m4 32 30)).toNatClampNeg a2 → (vp_in (m5 32 30) 4032 ∧ ∀ m6 : Mu, m6 = mu_up m5 23 ((m5 32 30)).toNatClampNeg a1 → ∀ m7 : Mu, m7 = mu_up m6 32 30 ((m6 32 30) + (1 : Int32)) → K m7))))))) ∧ (¬ (m0 21 (a1).toNatClampNeg) = 0 → K m0)))))
set_option maxRecDepth 20000 in
theorem sX5_addMoved {a1 a2 a3 : Int32} {m0 : Mu} {K : Mu → Prop} (hw : wX5_addMoved a1 a2 a3 m0 K) : am_Met mX5_addMoved [.ref 0, .int a1, .int a2, .int a3] (fX5 m0) 0 0 (zV fX5 K) := by
  unfold wX5_addMoved at hw
  refine am_Met.of2 (ls := [some (.ref 0), some (.int a1), some (.int a2), some (.int a3)]) pf_X5_addMoved rfl rfl rfl rfl ?_
  refine am_iload_n dX5_addMoved_0 rfl ?_
  refine am_if_lt 60 dX5_addMoved_1 (by decide) (fun c1 => ?_) (fun c1 => ?_)
  · have hw := hw.1 c1
    exact am_vreturn dX5_addMoved_60 rfl ⟨_, rfl, rfl, hw⟩
  · have hw := hw.2 c1
    refine am_aload_n dX5_addMoved_4 rfl ?_
    refine am_getf dX5_addMoved_5 fl_X5_57 rfl rfl ?_
    refine am_iload_n dX5_addMoved_8 rfl ?_
    refine am_baload dX5_addMoved_9 rfl hw.1 ?_
    have hw := hw.2
    refine am_if_ne 60 dX5_addMoved_10 (by decide) (fun c2 => ?_) (fun c2 => ?_)
    · have hw := hw.1 c2
      refine am_aload_n dX5_addMoved_13 rfl ?_
      refine am_getf dX5_addMoved_14 fl_X5_78 rfl rfl ?_
      refine am_iload_n dX5_addMoved_17 rfl ?_
      refine am_iaload dX5_addMoved_18 rfl hw.1 ?_
      have hw := hw.2
      refine am_iload_n dX5_addMoved_19 rfl ?_
      refine am_icmp_eq 60 dX5_addMoved_20 (by decide) (fun c3 => ?_) (fun c3 => ?_)
      · have hw := hw.1 c3
        exact am_vreturn dX5_addMoved_60 rfl ⟨_, rfl, rfl, hw⟩
      · have hw := hw.2 c3
        refine am_aload_n dX5_addMoved_23 rfl ?_
        refine am_getf dX5_addMoved_24 fl_X5_78 rfl rfl ?_
        refine am_iload_n dX5_addMoved_27 rfl ?_
        refine am_iload_n dX5_addMoved_28 rfl ?_
        refine am_iastore' (F := fX5) (m := mu_up m0 28 (a1).toNatClampNeg a3) dX5_addMoved_29 rfl hw.1 rfl (fun m4 em4 => ?_)
        have hw := hw.2 m4 em4
        refine am_aload_n dX5_addMoved_30 rfl ?_
        refine am_getf dX5_addMoved_31 fl_X5_72 rfl rfl ?_
        refine am_aload_n dX5_addMoved_34 rfl ?_
        refine am_getf dX5_addMoved_35 fl_X5_178 rfl rfl ?_
        refine am_iload_n dX5_addMoved_38 rfl ?_
        refine am_iastore' (F := fX5) (m := mu_up m4 26 ((m4 32 30)).toNatClampNeg a2) dX5_addMoved_39 rfl hw.1 rfl (fun m5 em5 => ?_)
        have hw := hw.2 m5 em5
        refine am_aload_n dX5_addMoved_40 rfl ?_
        refine am_getf dX5_addMoved_41 fl_X5_63 rfl rfl ?_
        refine am_aload_n dX5_addMoved_44 rfl ?_
        refine am_getf dX5_addMoved_45 fl_X5_178 rfl rfl ?_
        refine am_iload_n dX5_addMoved_48 rfl ?_
        refine am_iastore' (F := fX5) (m := mu_up m5 23 ((m5 32 30)).toNatClampNeg a1) dX5_addMoved_49 rfl hw.1 rfl (fun m6 em6 => ?_)
        have hw := hw.2 m6 em6
        refine am_aload_n dX5_addMoved_50 rfl ?_
        refine am_dup dX5_addMoved_51 rfl ?_
        refine am_getf dX5_addMoved_52 fl_X5_178 rfl rfl ?_
        refine am_iconst dX5_addMoved_55 ic_1 ?_
        refine am_iadd dX5_addMoved_56 ?_
        refine am_putf' (F := fX5) (m := mu_up m6 32 30 ((m6 32 30) + (1 : Int32))) dX5_addMoved_57 fp_X5_178 rfl rfl rfl (fun m7 em7 => ?_)
        have hw := hw m7 em7
        exact am_vreturn dX5_addMoved_60 rfl ⟨_, rfl, rfl, hw⟩
    · have hw := hw.2 c2
      exact am_vreturn dX5_addMoved_60 rfl ⟨_, rfl, rfl, hw⟩

def lpX5_finishOne_55 (K : Mu → Prop) (X0 : Int32 → Int32 → Int32 → Int32 → Mu → Prop) : Nat → Int32 → Int32 → Int32 → Int32 → Int32 → Mu → Prop
  | 0, _, _, _, _, _, _ => False
  | n + 1, v1, v2, v3, v4, v5, m0 => (((3 : Int32) < v5 → ∀ x8 : Int32, x8 = v4 + (10 : Int32) → X0 v1 v2 v3 x8 m0) ∧ (¬ (3 : Int32) < v5 → wX5_behind v1 (v4 + v5) m0 (fun (r9 : Int32) (m10 : Mu) => wX5_addMoved r9 (v2 + (1 : Int32)) v3 m10 (fun m11 : Mu => ∀ x12 : Int32, x12 = v5 + (1 : Int32) → lpX5_finishOne_55 K X0 n v1 v2 v3 v4 x12 m11))))
set_option maxRecDepth 20000 in
theorem slpX5_finishOne_55 {K : Mu → Prop} {X0 : Int32 → Int32 → Int32 → Int32 → Mu → Prop} (hX0 : ∀ (a0 a1 a2 a3 : Int32) (mm : Mu), X0 a0 a1 a2 a3 mm → am_Ok mX5_finishOne none (zV fX5 K) 0 0 45 [some (.ref 0), some (.int a0), some (.int a1), some (.int a2), some (.int a3), none] [] (fX5 mm)) : ∀ (n : Nat) (v1 v2 v3 v4 v5 : Int32) (m0 : Mu), lpX5_finishOne_55 K X0 n v1 v2 v3 v4 v5 m0 → am_Ok mX5_finishOne none (zV fX5 K) 0 0 55 [some (.ref 0), some (.int v1), some (.int v2), some (.int v3), some (.int v4), some (.int v5)] [] (fX5 m0) := by
  intro n
  induction n with
  | zero => intro v1 v2 v3 v4 v5 m0 hw; exact False.elim hw
  | succ n ih =>
    intro v1 v2 v3 v4 v5 m0 hw
    unfold lpX5_finishOne_55 at hw
    refine am_iload dX5_finishOne_55 rfl ?_
    refine am_iconst dX5_finishOne_57 ic_3 ?_
    refine am_icmp_gt 85 dX5_finishOne_58 (by decide) (fun c7 => ?_) (fun c7 => ?_)
    · have hw := hw.1 c7
      refine am_iinc' (lf := fun y9 => [some (.ref 0), some (.int v1), some (.int v2), some (.int v3), some (.int y9), some (.int v5)]) dX5_finishOne_85 rfl rfl rfl ic_10 (fun _ => rfl) (fun x8 ex8 => ?_)
      have hw := hw x8 ex8
      refine am_goto 45 dX5_finishOne_88 (by decide) ?_
      refine am_forget (ls' := [some (.ref 0), some (.int v1), some (.int v2), some (.int v3), some (.int x8), none]) [true, true, true, true, true, false] rfl ?_
      exact hX0 _ _ _ _ _ hw
    · have hw := hw.2 c7
      refine am_aload_n dX5_finishOne_61 rfl ?_
      refine am_aload_n dX5_finishOne_62 rfl ?_
      refine am_iload_n dX5_finishOne_63 rfl ?_
      refine am_iload dX5_finishOne_64 rfl ?_
      refine am_iload dX5_finishOne_66 rfl ?_
      refine am_iadd dX5_finishOne_68 ?_
      refine am_selfI fam_X5 rfl dX5_finishOne_69 q_X5_finishOne_184 rfl (sX5_behind hw) rfl rfl rfl rfl rfl (fun r9 m10 hw => ?_)
      refine am_iload_n dX5_finishOne_72 rfl ?_
      refine am_iconst dX5_finishOne_73 ic_1 ?_
      refine am_iadd dX5_finishOne_74 ?_
      refine am_iload_n dX5_finishOne_75 rfl ?_
      refine am_selfU fam_X5 rfl dX5_finishOne_76 q_X5_finishOne_187 rfl (sX5_addMoved hw) rfl rfl rfl rfl rfl (fun m11 hw => ?_)
      refine am_iinc' (lf := fun y9 => [some (.ref 0), some (.int v1), some (.int v2), some (.int v3), some (.int v4), some (.int y9)]) dX5_finishOne_79 rfl rfl rfl ic_1 (fun _ => rfl) (fun x12 ex12 => ?_)
      have hw := hw x12 ex12
      refine am_goto 55 dX5_finishOne_82 (by decide) ?_
      refine am_forget (ls' := [some (.ref 0), some (.int v1), some (.int v2), some (.int v3), some (.int v4), some (.int x12)]) [true, true, true, true, true, true] rfl ?_
      exact ih _ _ _ _ _ _ hw
def lpX5_finishOne_45 (K : Mu → Prop)  : Nat → Int32 → Int32 → Int32 → Int32 → Mu → Prop
  | 0, _, _, _, _, _ => False
  | n + 1, v1, v2, v3, v4, m0 => (((50 : Int32) ≤ v4 → K m0) ∧ (¬ (50 : Int32) ≤ v4 → (∃ n13 : Nat, lpX5_finishOne_55 K (fun a0 a1 a2 a3 mm => lpX5_finishOne_45 K n a0 a1 a2 a3 mm) n13 v1 v2 v3 v4 (1 : Int32) m0)))
set_option maxRecDepth 20000 in
theorem slpX5_finishOne_45 {K : Mu → Prop} : ∀ (n : Nat) (v1 v2 v3 v4 : Int32) (m0 : Mu), lpX5_finishOne_45 K n v1 v2 v3 v4 m0 → am_Ok mX5_finishOne none (zV fX5 K) 0 0 45 [some (.ref 0), some (.int v1), some (.int v2), some (.int v3), some (.int v4), none] [] (fX5 m0) := by
  intro n
  induction n with
  | zero => intro v1 v2 v3 v4 m0 hw; exact False.elim hw
  | succ n ih =>
    intro v1 v2 v3 v4 m0 hw
    unfold lpX5_finishOne_45 at hw
    refine am_iload dX5_finishOne_45 rfl ?_
    refine am_bipush dX5_finishOne_47 bc_50 ?_
    refine am_icmp_ge 91 dX5_finishOne_49 (by decide) (fun c6 => ?_) (fun c6 => ?_)
    · have hw := hw.1 c6
      exact am_vreturn dX5_finishOne_91 rfl ⟨_, rfl, rfl, hw⟩
    · have hw := hw.2 c6
      refine am_iconst dX5_finishOne_52 ic_1 ?_
      refine am_istore' (ls' := [some (.ref 0), some (.int v1), some (.int v2), some (.int v3), some (.int v4), some (.int (1 : Int32))]) dX5_finishOne_53 rfl rfl rfl ?_
      obtain ⟨n13, hw⟩ := hw
      refine am_forget (ls' := [some (.ref 0), some (.int v1), some (.int v2), some (.int v3), some (.int v4), some (.int (1 : Int32))]) [true, true, true, true, true, true] rfl ?_
      exact slpX5_finishOne_55 (fun a0 a1 a2 a3 mm hq => ih a0 a1 a2 a3 mm hq) n13 _ _ _ _ _ _ hw
def wX5_finishOne (a1 a2 a3 : Int32) (m0 : Mu) (K : Mu → Prop) : Prop := (vp_in a1 4032 ∧ ∀ m1 : Mu, m1 = mu_up m0 21 (a1).toNatClampNeg (vp_nar .boolean (1 : Int32)) → (vp_in a1 4032 ∧ ∀ m2 : Mu, m2 = mu_up m1 19 (a1).toNatClampNeg a3 → (vp_in a1 4032 ∧ ∀ m3 : Mu, m3 = mu_up m2 20 (a1).toNatClampNeg a2 → (vp_in (m3 32 31) 4032 ∧ ∀ m4 : Mu, m4 = mu_up m3 24 ((m3 32 31)).toNatClampNeg a1 → ∀ m5 : Mu, m5 = mu_up m4 32 31 ((m4 32 31) + (1 : Int32)) → (∃ n14 : Nat, lpX5_finishOne_45 K n14 a1 a2 a3 (10 : Int32) m5)))))
set_option maxRecDepth 20000 in
theorem sX5_finishOne {a1 a2 a3 : Int32} {m0 : Mu} {K : Mu → Prop} (hw : wX5_finishOne a1 a2 a3 m0 K) : am_Met mX5_finishOne [.ref 0, .int a1, .int a2, .int a3] (fX5 m0) 0 0 (zV fX5 K) := by
  unfold wX5_finishOne at hw
  refine am_Met.of2 (ls := [some (.ref 0), some (.int a1), some (.int a2), some (.int a3), none, none]) pf_X5_finishOne rfl rfl rfl rfl ?_
  refine am_aload_n dX5_finishOne_0 rfl ?_
  refine am_getf dX5_finishOne_1 fl_X5_57 rfl rfl ?_
  refine am_iload_n dX5_finishOne_4 rfl ?_
  refine am_iconst dX5_finishOne_5 ic_1 ?_
  refine am_bastore' (F := fX5) (m := mu_up m0 21 (a1).toNatClampNeg (vp_nar .boolean (1 : Int32))) dX5_finishOne_6 rfl hw.1 rfl (fun m1 em1 => ?_)
  have hw := hw.2 m1 em1
  refine am_aload_n dX5_finishOne_7 rfl ?_
  refine am_getf dX5_finishOne_8 fl_X5_51 rfl rfl ?_
  refine am_iload_n dX5_finishOne_11 rfl ?_
  refine am_iload_n dX5_finishOne_12 rfl ?_
  refine am_iastore' (F := fX5) (m := mu_up m1 19 (a1).toNatClampNeg a3) dX5_finishOne_13 rfl hw.1 rfl (fun m2 em2 => ?_)
  have hw := hw.2 m2 em2
  refine am_aload_n dX5_finishOne_14 rfl ?_
  refine am_getf dX5_finishOne_15 fl_X5_54 rfl rfl ?_
  refine am_iload_n dX5_finishOne_18 rfl ?_
  refine am_iload_n dX5_finishOne_19 rfl ?_
  refine am_iastore' (F := fX5) (m := mu_up m2 20 (a1).toNatClampNeg a2) dX5_finishOne_20 rfl hw.1 rfl (fun m3 em3 => ?_)
  have hw := hw.2 m3 em3
  refine am_aload_n dX5_finishOne_21 rfl ?_
  refine am_getf dX5_finishOne_22 fl_X5_66 rfl rfl ?_
  refine am_aload_n dX5_finishOne_25 rfl ?_
  refine am_getf dX5_finishOne_26 fl_X5_181 rfl rfl ?_
  refine am_iload_n dX5_finishOne_29 rfl ?_
  refine am_iastore' (F := fX5) (m := mu_up m3 24 ((m3 32 31)).toNatClampNeg a1) dX5_finishOne_30 rfl hw.1 rfl (fun m4 em4 => ?_)
  have hw := hw.2 m4 em4
  refine am_aload_n dX5_finishOne_31 rfl ?_
  refine am_dup dX5_finishOne_32 rfl ?_
  refine am_getf dX5_finishOne_33 fl_X5_181 rfl rfl ?_
  refine am_iconst dX5_finishOne_36 ic_1 ?_
  refine am_iadd dX5_finishOne_37 ?_
  refine am_putf' (F := fX5) (m := mu_up m4 32 31 ((m4 32 31) + (1 : Int32))) dX5_finishOne_38 fp_X5_181 rfl rfl rfl (fun m5 em5 => ?_)
  have hw := hw m5 em5
  refine am_bipush dX5_finishOne_41 bc_10 ?_
  refine am_istore' (ls' := [some (.ref 0), some (.int a1), some (.int a2), some (.int a3), some (.int (10 : Int32)), none]) dX5_finishOne_43 rfl rfl rfl ?_
  obtain ⟨n14, hw⟩ := hw
  refine am_forget (ls' := [some (.ref 0), some (.int a1), some (.int a2), some (.int a3), some (.int (10 : Int32)), none]) [true, true, true, true, true, false] rfl ?_
  exact slpX5_finishOne_45  n14 _ _ _ _ _ hw

def jnX5_finishLevel_136 (K : Mu → Prop) (X0 : Int32 → Int32 → Int32 → Mu → Prop) (v1 v2 v5 v6 u0 u1 : Int32) (m0 : Mu) : Prop := ∀ x10 : Int32, x10 = (u1 + u0) → (vp_in v5 4032 ∧ (((m0 21 (v5).toNatClampNeg) = 0 → wX5_finishOne v5 v6 v1 m0 (fun m12 : Mu => X0 v1 v2 x10 m12)) ∧ (¬ (m0 21 (v5).toNatClampNeg) = 0 → X0 v1 v2 x10 m0)))
set_option maxRecDepth 20000 in
theorem sjnX5_finishLevel_136 {m0 : Mu} {K : Mu → Prop} {X0 : Int32 → Int32 → Int32 → Mu → Prop} (hX0 : ∀ (a0 a1 a2 : Int32) (mm : Mu), X0 a0 a1 a2 mm → am_Ok mX5_finishLevel none (zV fX5 K) 0 0 14 [some (.ref 0), some (.int a0), some (.int a1), some (.int a2), none, none, none] [] (fX5 mm)) {v1 v2 v5 v6 u0 u1 : Int32} (hw : jnX5_finishLevel_136 K X0 v1 v2 v5 v6 u0 u1 m0) : am_Ok mX5_finishLevel none (zV fX5 K) 0 0 136 [some (.ref 0), some (.int v1), some (.int v2), none, none, some (.int v5), some (.int v6)] [.int u0, .int u1] (fX5 m0) := by
  unfold jnX5_finishLevel_136 at hw
  refine am_iadd dX5_finishLevel_136 ?_
  refine am_top (fun x10 ex10 => ?_)
  have hw := hw x10 ex10
  refine am_istore_n' (ls' := [some (.ref 0), some (.int v1), some (.int v2), some (.int x10), none, some (.int v5), some (.int v6)]) dX5_finishLevel_137 rfl rfl rfl ?_
  refine am_aload_n dX5_finishLevel_138 rfl ?_
  refine am_getf dX5_finishLevel_139 fl_X5_57 rfl rfl ?_
  refine am_iload dX5_finishLevel_142 rfl ?_
  refine am_baload dX5_finishLevel_144 rfl hw.1 ?_
  have hw := hw.2
  refine am_if_ne 157 dX5_finishLevel_145 (by decide) (fun c11 => ?_) (fun c11 => ?_)
  · have hw := hw.1 c11
    refine am_aload_n dX5_finishLevel_148 rfl ?_
    refine am_iload dX5_finishLevel_149 rfl ?_
    refine am_iload dX5_finishLevel_151 rfl ?_
    refine am_iload_n dX5_finishLevel_153 rfl ?_
    refine am_selfU fam_X5 rfl dX5_finishLevel_154 q_X5_finishLevel_190 rfl (sX5_finishOne hw) rfl rfl rfl rfl rfl (fun m12 hw => ?_)
    refine am_goto 14 dX5_finishLevel_157 (by decide) ?_
    refine am_forget (ls' := [some (.ref 0), some (.int v1), some (.int v2), some (.int x10), none, none, none]) [true, true, true, true, false, false, false] rfl ?_
    exact hX0 _ _ _ _ hw
  · have hw := hw.2 c11
    refine am_goto 14 dX5_finishLevel_157 (by decide) ?_
    refine am_forget (ls' := [some (.ref 0), some (.int v1), some (.int v2), some (.int x10), none, none, none]) [true, true, true, true, false, false, false] rfl ?_
    exact hX0 _ _ _ _ hw
def jnX5_finishLevel_123 (K : Mu → Prop) (X0 : Int32 → Int32 → Int32 → Mu → Prop) (v1 v3 v4 v5 v6 u0 u1 : Int32) (m0 : Mu) : Prop := ∀ x8 : Int32, x8 = (u1 + u0) → ((v4 = 0 → jnX5_finishLevel_136 K (fun a0 a1 a2 mm => X0 a0 a1 a2 mm) v1 x8 v5 v6 (1 : Int32) v3 m0) ∧ (¬ v4 = 0 → jnX5_finishLevel_136 K (fun a0 a1 a2 mm => X0 a0 a1 a2 mm) v1 x8 v5 v6 (0 : Int32) v3 m0))
set_option maxRecDepth 20000 in
theorem sjnX5_finishLevel_123 {m0 : Mu} {K : Mu → Prop} {X0 : Int32 → Int32 → Int32 → Mu → Prop} (hX0 : ∀ (a0 a1 a2 : Int32) (mm : Mu), X0 a0 a1 a2 mm → am_Ok mX5_finishLevel none (zV fX5 K) 0 0 14 [some (.ref 0), some (.int a0), some (.int a1), some (.int a2), none, none, none] [] (fX5 mm)) {v1 v3 v4 v5 v6 u0 u1 : Int32} (hw : jnX5_finishLevel_123 K X0 v1 v3 v4 v5 v6 u0 u1 m0) : am_Ok mX5_finishLevel none (zV fX5 K) 0 0 123 [some (.ref 0), some (.int v1), none, some (.int v3), some (.int v4), some (.int v5), some (.int v6)] [.int u0, .int u1] (fX5 m0) := by
  unfold jnX5_finishLevel_123 at hw
  refine am_iadd dX5_finishLevel_123 ?_
  refine am_top (fun x8 ex8 => ?_)
  have hw := hw x8 ex8
  refine am_istore_n' (ls' := [some (.ref 0), some (.int v1), some (.int x8), some (.int v3), some (.int v4), some (.int v5), some (.int v6)]) dX5_finishLevel_124 rfl rfl rfl ?_
  refine am_iload_n dX5_finishLevel_125 rfl ?_
  refine am_iload dX5_finishLevel_126 rfl ?_
  refine am_if_eq 135 dX5_finishLevel_128 (by decide) (fun c9 => ?_) (fun c9 => ?_)
  · have hw := hw.1 c9
    refine am_iconst dX5_finishLevel_135 ic_1 ?_
    refine am_forget (ls' := [some (.ref 0), some (.int v1), some (.int x8), none, none, some (.int v5), some (.int v6)]) [true, true, true, false, false, true, true] rfl ?_
    exact sjnX5_finishLevel_136 (fun a0 a1 a2 mm hq => hX0 a0 a1 a2 mm hq) hw
  · have hw := hw.2 c9
    refine am_iconst dX5_finishLevel_131 ic_0 ?_
    refine am_goto 136 dX5_finishLevel_132 (by decide) ?_
    refine am_forget (ls' := [some (.ref 0), some (.int v1), some (.int x8), none, none, some (.int v5), some (.int v6)]) [true, true, true, false, false, true, true] rfl ?_
    exact sjnX5_finishLevel_136 (fun a0 a1 a2 mm hq => hX0 a0 a1 a2 mm hq) hw
def jnX5_finishLevel_110 (K : Mu → Prop) (X0 : Int32 → Int32 → Int32 → Mu → Prop) (v1 v2 v3 v4 v5 u0 : Int32) (m0 : Mu) : Prop := ((v4 = 0 → jnX5_finishLevel_123 K (fun a0 a1 a2 mm => X0 a0 a1 a2 mm) v1 v3 v4 v5 u0 (0 : Int32) v2 m0) ∧ (¬ v4 = 0 → jnX5_finishLevel_123 K (fun a0 a1 a2 mm => X0 a0 a1 a2 mm) v1 v3 v4 v5 u0 (1 : Int32) v2 m0))
set_option maxRecDepth 20000 in
theorem sjnX5_finishLevel_110 {m0 : Mu} {K : Mu → Prop} {X0 : Int32 → Int32 → Int32 → Mu → Prop} (hX0 : ∀ (a0 a1 a2 : Int32) (mm : Mu), X0 a0 a1 a2 mm → am_Ok mX5_finishLevel none (zV fX5 K) 0 0 14 [some (.ref 0), some (.int a0), some (.int a1), some (.int a2), none, none, none] [] (fX5 mm)) {v1 v2 v3 v4 v5 u0 : Int32} (hw : jnX5_finishLevel_110 K X0 v1 v2 v3 v4 v5 u0 m0) : am_Ok mX5_finishLevel none (zV fX5 K) 0 0 110 [some (.ref 0), some (.int v1), some (.int v2), some (.int v3), some (.int v4), some (.int v5), none] [.int u0] (fX5 m0) := by
  unfold jnX5_finishLevel_110 at hw
  refine am_istore' (ls' := [some (.ref 0), some (.int v1), some (.int v2), some (.int v3), some (.int v4), some (.int v5), some (.int u0)]) dX5_finishLevel_110 rfl rfl rfl ?_
  refine am_iload_n dX5_finishLevel_112 rfl ?_
  refine am_iload dX5_finishLevel_113 rfl ?_
  refine am_if_eq 122 dX5_finishLevel_115 (by decide) (fun c7 => ?_) (fun c7 => ?_)
  · have hw := hw.1 c7
    refine am_iconst dX5_finishLevel_122 ic_0 ?_
    refine am_forget (ls' := [some (.ref 0), some (.int v1), none, some (.int v3), some (.int v4), some (.int v5), some (.int u0)]) [true, true, false, true, true, true, true] rfl ?_
    exact sjnX5_finishLevel_123 (fun a0 a1 a2 mm hq => hX0 a0 a1 a2 mm hq) hw
  · have hw := hw.2 c7
    refine am_iconst dX5_finishLevel_118 ic_1 ?_
    refine am_goto 123 dX5_finishLevel_119 (by decide) ?_
    refine am_forget (ls' := [some (.ref 0), some (.int v1), none, some (.int v3), some (.int v4), some (.int v5), some (.int u0)]) [true, true, false, true, true, true, true] rfl ?_
    exact sjnX5_finishLevel_123 (fun a0 a1 a2 mm hq => hX0 a0 a1 a2 mm hq) hw
def jnX5_finishLevel_88 (K : Mu → Prop) (X0 : Int32 → Int32 → Int32 → Mu → Prop) (v1 v2 v3 v4 u0 : Int32) (m0 : Mu) : Prop := ((v4 = 0 → (vp_in v3 4032 ∧ jnX5_finishLevel_110 K (fun a0 a1 a2 mm => X0 a0 a1 a2 mm) v1 v2 v3 v4 u0 (m0 26 (v3).toNatClampNeg) m0)) ∧ (¬ v4 = 0 → (vp_in v2 4032 ∧ jnX5_finishLevel_110 K (fun a0 a1 a2 mm => X0 a0 a1 a2 mm) v1 v2 v3 v4 u0 (m0 25 (v2).toNatClampNeg) m0)))
set_option maxRecDepth 20000 in
theorem sjnX5_finishLevel_88 {m0 : Mu} {K : Mu → Prop} {X0 : Int32 → Int32 → Int32 → Mu → Prop} (hX0 : ∀ (a0 a1 a2 : Int32) (mm : Mu), X0 a0 a1 a2 mm → am_Ok mX5_finishLevel none (zV fX5 K) 0 0 14 [some (.ref 0), some (.int a0), some (.int a1), some (.int a2), none, none, none] [] (fX5 mm)) {v1 v2 v3 v4 u0 : Int32} (hw : jnX5_finishLevel_88 K X0 v1 v2 v3 v4 u0 m0) : am_Ok mX5_finishLevel none (zV fX5 K) 0 0 88 [some (.ref 0), some (.int v1), some (.int v2), some (.int v3), some (.int v4), none, none] [.int u0] (fX5 m0) := by
  unfold jnX5_finishLevel_88 at hw
  refine am_istore' (ls' := [some (.ref 0), some (.int v1), some (.int v2), some (.int v3), some (.int v4), some (.int u0), none]) dX5_finishLevel_88 rfl rfl rfl ?_
  refine am_iload dX5_finishLevel_90 rfl ?_
  refine am_if_eq 104 dX5_finishLevel_92 (by decide) (fun c6 => ?_) (fun c6 => ?_)
  · have hw := hw.1 c6
    refine am_aload_n dX5_finishLevel_104 rfl ?_
    refine am_getf dX5_finishLevel_105 fl_X5_72 rfl rfl ?_
    refine am_iload_n dX5_finishLevel_108 rfl ?_
    refine am_iaload dX5_finishLevel_109 rfl hw.1 ?_
    have hw := hw.2
    refine am_forget (ls' := [some (.ref 0), some (.int v1), some (.int v2), some (.int v3), some (.int v4), some (.int u0), none]) [true, true, true, true, true, true, false] rfl ?_
    exact sjnX5_finishLevel_110 (fun a0 a1 a2 mm hq => hX0 a0 a1 a2 mm hq) hw
  · have hw := hw.2 c6
    refine am_aload_n dX5_finishLevel_95 rfl ?_
    refine am_getf dX5_finishLevel_96 fl_X5_69 rfl rfl ?_
    refine am_iload_n dX5_finishLevel_99 rfl ?_
    refine am_iaload dX5_finishLevel_100 rfl hw.1 ?_
    have hw := hw.2
    refine am_goto 110 dX5_finishLevel_101 (by decide) ?_
    refine am_forget (ls' := [some (.ref 0), some (.int v1), some (.int v2), some (.int v3), some (.int v4), some (.int u0), none]) [true, true, true, true, true, true, false] rfl ?_
    exact sjnX5_finishLevel_110 (fun a0 a1 a2 mm hq => hX0 a0 a1 a2 mm hq) hw
def jnX5_finishLevel_66 (K : Mu → Prop) (X0 : Int32 → Int32 → Int32 → Mu → Prop) (v1 v2 v3 u0 : Int32) (m0 : Mu) : Prop := ((u0 = 0 → (vp_in v3 4032 ∧ jnX5_finishLevel_88 K (fun a0 a1 a2 mm => X0 a0 a1 a2 mm) v1 v2 v3 u0 (m0 23 (v3).toNatClampNeg) m0)) ∧ (¬ u0 = 0 → (vp_in v2 4032 ∧ jnX5_finishLevel_88 K (fun a0 a1 a2 mm => X0 a0 a1 a2 mm) v1 v2 v3 u0 (m0 22 (v2).toNatClampNeg) m0)))
set_option maxRecDepth 20000 in
theorem sjnX5_finishLevel_66 {m0 : Mu} {K : Mu → Prop} {X0 : Int32 → Int32 → Int32 → Mu → Prop} (hX0 : ∀ (a0 a1 a2 : Int32) (mm : Mu), X0 a0 a1 a2 mm → am_Ok mX5_finishLevel none (zV fX5 K) 0 0 14 [some (.ref 0), some (.int a0), some (.int a1), some (.int a2), none, none, none] [] (fX5 mm)) {v1 v2 v3 u0 : Int32} (hw : jnX5_finishLevel_66 K X0 v1 v2 v3 u0 m0) : am_Ok mX5_finishLevel none (zV fX5 K) 0 0 66 [some (.ref 0), some (.int v1), some (.int v2), some (.int v3), none, none, none] [.int u0] (fX5 m0) := by
  unfold jnX5_finishLevel_66 at hw
  refine am_istore' (ls' := [some (.ref 0), some (.int v1), some (.int v2), some (.int v3), some (.int u0), none, none]) dX5_finishLevel_66 rfl rfl rfl ?_
  refine am_iload dX5_finishLevel_68 rfl ?_
  refine am_if_eq 82 dX5_finishLevel_70 (by decide) (fun c5 => ?_) (fun c5 => ?_)
  · have hw := hw.1 c5
    refine am_aload_n dX5_finishLevel_82 rfl ?_
    refine am_getf dX5_finishLevel_83 fl_X5_63 rfl rfl ?_
    refine am_iload_n dX5_finishLevel_86 rfl ?_
    refine am_iaload dX5_finishLevel_87 rfl hw.1 ?_
    have hw := hw.2
    refine am_forget (ls' := [some (.ref 0), some (.int v1), some (.int v2), some (.int v3), some (.int u0), none, none]) [true, true, true, true, true, false, false] rfl ?_
    exact sjnX5_finishLevel_88 (fun a0 a1 a2 mm hq => hX0 a0 a1 a2 mm hq) hw
  · have hw := hw.2 c5
    refine am_aload_n dX5_finishLevel_73 rfl ?_
    refine am_getf dX5_finishLevel_74 fl_X5_60 rfl rfl ?_
    refine am_iload_n dX5_finishLevel_77 rfl ?_
    refine am_iaload dX5_finishLevel_78 rfl hw.1 ?_
    have hw := hw.2
    refine am_goto 88 dX5_finishLevel_79 (by decide) ?_
    refine am_forget (ls' := [some (.ref 0), some (.int v1), some (.int v2), some (.int v3), some (.int u0), none, none]) [true, true, true, true, true, false, false] rfl ?_
    exact sjnX5_finishLevel_88 (fun a0 a1 a2 mm hq => hX0 a0 a1 a2 mm hq) hw
def jnX5_finishLevel_61 (K : Mu → Prop) (X0 : Int32 → Int32 → Int32 → Mu → Prop) (v1 v2 v3 : Int32) (m0 : Mu) : Prop := jnX5_finishLevel_66 K (fun a0 a1 a2 mm => X0 a0 a1 a2 mm) v1 v2 v3 (1 : Int32) m0
set_option maxRecDepth 20000 in
theorem sjnX5_finishLevel_61 {m0 : Mu} {K : Mu → Prop} {X0 : Int32 → Int32 → Int32 → Mu → Prop} (hX0 : ∀ (a0 a1 a2 : Int32) (mm : Mu), X0 a0 a1 a2 mm → am_Ok mX5_finishLevel none (zV fX5 K) 0 0 14 [some (.ref 0), some (.int a0), some (.int a1), some (.int a2), none, none, none] [] (fX5 mm)) {v1 v2 v3 : Int32} (hw : jnX5_finishLevel_61 K X0 v1 v2 v3 m0) : am_Ok mX5_finishLevel none (zV fX5 K) 0 0 61 [some (.ref 0), some (.int v1), some (.int v2), some (.int v3), none, none, none] [] (fX5 m0) := by
  unfold jnX5_finishLevel_61 at hw
  refine am_iconst dX5_finishLevel_61 ic_1 ?_
  refine am_goto 66 dX5_finishLevel_62 (by decide) ?_
  refine am_forget (ls' := [some (.ref 0), some (.int v1), some (.int v2), some (.int v3), none, none, none]) [true, true, true, true, false, false, false] rfl ?_
  exact sjnX5_finishLevel_66 (fun a0 a1 a2 mm hq => hX0 a0 a1 a2 mm hq) hw
def jnX5_finishLevel_65 (K : Mu → Prop) (X0 : Int32 → Int32 → Int32 → Mu → Prop) (v1 v2 v3 : Int32) (m0 : Mu) : Prop := jnX5_finishLevel_66 K (fun a0 a1 a2 mm => X0 a0 a1 a2 mm) v1 v2 v3 (0 : Int32) m0
set_option maxRecDepth 20000 in
theorem sjnX5_finishLevel_65 {m0 : Mu} {K : Mu → Prop} {X0 : Int32 → Int32 → Int32 → Mu → Prop} (hX0 : ∀ (a0 a1 a2 : Int32) (mm : Mu), X0 a0 a1 a2 mm → am_Ok mX5_finishLevel none (zV fX5 K) 0 0 14 [some (.ref 0), some (.int a0), some (.int a1), some (.int a2), none, none, none] [] (fX5 mm)) {v1 v2 v3 : Int32} (hw : jnX5_finishLevel_65 K X0 v1 v2 v3 m0) : am_Ok mX5_finishLevel none (zV fX5 K) 0 0 65 [some (.ref 0), some (.int v1), some (.int v2), some (.int v3), none, none, none] [] (fX5 m0) := by
  unfold jnX5_finishLevel_65 at hw
  refine am_iconst dX5_finishLevel_65 ic_0 ?_
  refine am_forget (ls' := [some (.ref 0), some (.int v1), some (.int v2), some (.int v3), none, none, none]) [true, true, true, true, false, false, false] rfl ?_
  exact sjnX5_finishLevel_66 (fun a0 a1 a2 mm hq => hX0 a0 a1 a2 mm hq) hw
def jnX5_finishLevel_30 (K : Mu → Prop) (X0 : Int32 → Int32 → Int32 → Mu → Prop) (v1 v2 v3 : Int32) (m0 : Mu) : Prop := ((v3 = (m0 32 30) → jnX5_finishLevel_61 K (fun a0 a1 a2 mm => X0 a0 a1 a2 mm) v1 v2 v3 m0) ∧ (¬ v3 = (m0 32 30) → (((m0 32 29) ≤ v2 → jnX5_finishLevel_65 K (fun a0 a1 a2 mm => X0 a0 a1 a2 mm) v1 v2 v3 m0) ∧ (¬ (m0 32 29) ≤ v2 → (vp_in v2 4032 ∧ (vp_in v3 4032 ∧ (((m0 26 (v3).toNatClampNeg) < (m0 25 (v2).toNatClampNeg) → jnX5_finishLevel_65 K (fun a0 a1 a2 mm => X0 a0 a1 a2 mm) v1 v2 v3 m0) ∧ (¬ (m0 26 (v3).toNatClampNeg) < (m0 25 (v2).toNatClampNeg) → jnX5_finishLevel_61 K (fun a0 a1 a2 mm => X0 a0 a1 a2 mm) v1 v2 v3 m0))))))))
set_option maxRecDepth 20000 in
theorem sjnX5_finishLevel_30 {m0 : Mu} {K : Mu → Prop} {X0 : Int32 → Int32 → Int32 → Mu → Prop} (hX0 : ∀ (a0 a1 a2 : Int32) (mm : Mu), X0 a0 a1 a2 mm → am_Ok mX5_finishLevel none (zV fX5 K) 0 0 14 [some (.ref 0), some (.int a0), some (.int a1), some (.int a2), none, none, none] [] (fX5 mm)) {v1 v2 v3 : Int32} (hw : jnX5_finishLevel_30 K X0 v1 v2 v3 m0) : am_Ok mX5_finishLevel none (zV fX5 K) 0 0 30 [some (.ref 0), some (.int v1), some (.int v2), some (.int v3), none, none, none] [] (fX5 m0) := by
  unfold jnX5_finishLevel_30 at hw
  refine am_iload_n dX5_finishLevel_30 rfl ?_
  refine am_aload_n dX5_finishLevel_31 rfl ?_
  refine am_getf dX5_finishLevel_32 fl_X5_178 rfl rfl ?_
  refine am_icmp_eq 61 dX5_finishLevel_35 (by decide) (fun c4 => ?_) (fun c4 => ?_)
  · have hw := hw.1 c4
    refine am_forget (ls' := [some (.ref 0), some (.int v1), some (.int v2), some (.int v3), none, none, none]) [true, true, true, true, false, false, false] rfl ?_
    exact sjnX5_finishLevel_61 (fun a0 a1 a2 mm hq => hX0 a0 a1 a2 mm hq) hw
  · have hw := hw.2 c4
    refine am_iload_n dX5_finishLevel_38 rfl ?_
    refine am_aload_n dX5_finishLevel_39 rfl ?_
    refine am_getf dX5_finishLevel_40 fl_X5_175 rfl rfl ?_
    refine am_icmp_ge 65 dX5_finishLevel_43 (by decide) (fun c13 => ?_) (fun c13 => ?_)
    · have hw := hw.1 c13
      refine am_forget (ls' := [some (.ref 0), some (.int v1), some (.int v2), some (.int v3), none, none, none]) [true, true, true, true, false, false, false] rfl ?_
      exact sjnX5_finishLevel_65 (fun a0 a1 a2 mm hq => hX0 a0 a1 a2 mm hq) hw
    · have hw := hw.2 c13
      refine am_aload_n dX5_finishLevel_46 rfl ?_
      refine am_getf dX5_finishLevel_47 fl_X5_69 rfl rfl ?_
      refine am_iload_n dX5_finishLevel_50 rfl ?_
      refine am_iaload dX5_finishLevel_51 rfl hw.1 ?_
      have hw := hw.2
      refine am_aload_n dX5_finishLevel_52 rfl ?_
      refine am_getf dX5_finishLevel_53 fl_X5_72 rfl rfl ?_
      refine am_iload_n dX5_finishLevel_56 rfl ?_
      refine am_iaload dX5_finishLevel_57 rfl hw.1 ?_
      have hw := hw.2
      refine am_icmp_gt 65 dX5_finishLevel_58 (by decide) (fun c14 => ?_) (fun c14 => ?_)
      · have hw := hw.1 c14
        refine am_forget (ls' := [some (.ref 0), some (.int v1), some (.int v2), some (.int v3), none, none, none]) [true, true, true, true, false, false, false] rfl ?_
        exact sjnX5_finishLevel_65 (fun a0 a1 a2 mm hq => hX0 a0 a1 a2 mm hq) hw
      · have hw := hw.2 c14
        refine am_forget (ls' := [some (.ref 0), some (.int v1), some (.int v2), some (.int v3), none, none, none]) [true, true, true, true, false, false, false] rfl ?_
        exact sjnX5_finishLevel_61 (fun a0 a1 a2 mm hq => hX0 a0 a1 a2 mm hq) hw
def lpX5_finishLevel_14 (K : Mu → Prop)  : Nat → Int32 → Int32 → Int32 → Mu → Prop
  | 0, _, _, _, _ => False
  | n + 1, v1, v2, v3, m0 => ((v2 < (m0 32 29) → jnX5_finishLevel_30 K (fun a0 a1 a2 mm => lpX5_finishLevel_14 K n a0 a1 a2 mm) v1 v2 v3 m0) ∧ (¬ v2 < (m0 32 29) → (((m0 32 30) ≤ v3 → K m0) ∧ (¬ (m0 32 30) ≤ v3 → jnX5_finishLevel_30 K (fun a0 a1 a2 mm => lpX5_finishLevel_14 K n a0 a1 a2 mm) v1 v2 v3 m0))))
set_option maxRecDepth 20000 in
theorem slpX5_finishLevel_14 {K : Mu → Prop} : ∀ (n : Nat) (v1 v2 v3 : Int32) (m0 : Mu), lpX5_finishLevel_14 K n v1 v2 v3 m0 → am_Ok mX5_finishLevel none (zV fX5 K) 0 0 14 [some (.ref 0), some (.int v1), some (.int v2), some (.int v3), none, none, none] [] (fX5 m0) := by
  intro n
  induction n with
  | zero => intro v1 v2 v3 m0 hw; exact False.elim hw
  | succ n ih =>
    intro v1 v2 v3 m0 hw
    unfold lpX5_finishLevel_14 at hw
    refine am_iload_n dX5_finishLevel_14 rfl ?_
    refine am_aload_n dX5_finishLevel_15 rfl ?_
    refine am_getf dX5_finishLevel_16 fl_X5_175 rfl rfl ?_
    refine am_icmp_lt 30 dX5_finishLevel_19 (by decide) (fun c3 => ?_) (fun c3 => ?_)
    · have hw := hw.1 c3
      refine am_forget (ls' := [some (.ref 0), some (.int v1), some (.int v2), some (.int v3), none, none, none]) [true, true, true, true, false, false, false] rfl ?_
      exact sjnX5_finishLevel_30 (fun a0 a1 a2 mm hq => ih a0 a1 a2 mm hq) hw
    · have hw := hw.2 c3
      refine am_iload_n dX5_finishLevel_22 rfl ?_
      refine am_aload_n dX5_finishLevel_23 rfl ?_
      refine am_getf dX5_finishLevel_24 fl_X5_178 rfl rfl ?_
      refine am_icmp_ge 160 dX5_finishLevel_27 (by decide) (fun c15 => ?_) (fun c15 => ?_)
      · have hw := hw.1 c15
        exact am_vreturn dX5_finishLevel_160 rfl ⟨_, rfl, rfl, hw⟩
      · have hw := hw.2 c15
        refine am_forget (ls' := [some (.ref 0), some (.int v1), some (.int v2), some (.int v3), none, none, none]) [true, true, true, true, false, false, false] rfl ?_
        exact sjnX5_finishLevel_30 (fun a0 a1 a2 mm hq => ih a0 a1 a2 mm hq) hw
def wX5_finishLevel (a1 : Int32) (m0 : Mu) (K : Mu → Prop) : Prop := ∀ m1 : Mu, m1 = mu_up m0 32 30 (0 : Int32) → ∀ m2 : Mu, m2 = mu_up m1 32 31 (0 : Int32) → (∃ n16 : Nat, lpX5_finishLevel_14 K n16 a1 (0 : Int32) (0 : Int32) m2)
set_option maxRecDepth 20000 in
theorem sX5_finishLevel {a1 : Int32} {m0 : Mu} {K : Mu → Prop} (hw : wX5_finishLevel a1 m0 K) : am_Met mX5_finishLevel [.ref 0, .int a1] (fX5 m0) 0 0 (zV fX5 K) := by
  unfold wX5_finishLevel at hw
  refine am_Met.of2 (ls := [some (.ref 0), some (.int a1), none, none, none, none, none]) pf_X5_finishLevel rfl rfl rfl rfl ?_
  refine am_iconst dX5_finishLevel_0 ic_0 ?_
  refine am_istore_n' (ls' := [some (.ref 0), some (.int a1), some (.int (0 : Int32)), none, none, none, none]) dX5_finishLevel_1 rfl rfl rfl ?_
  refine am_iconst dX5_finishLevel_2 ic_0 ?_
  refine am_istore_n' (ls' := [some (.ref 0), some (.int a1), some (.int (0 : Int32)), some (.int (0 : Int32)), none, none, none]) dX5_finishLevel_3 rfl rfl rfl ?_
  refine am_aload_n dX5_finishLevel_4 rfl ?_
  refine am_iconst dX5_finishLevel_5 ic_0 ?_
  refine am_putf' (F := fX5) (m := mu_up m0 32 30 (0 : Int32)) dX5_finishLevel_6 fp_X5_178 rfl rfl rfl (fun m1 em1 => ?_)
  have hw := hw m1 em1
  refine am_aload_n dX5_finishLevel_9 rfl ?_
  refine am_iconst dX5_finishLevel_10 ic_0 ?_
  refine am_putf' (F := fX5) (m := mu_up m1 32 31 (0 : Int32)) dX5_finishLevel_11 fp_X5_181 rfl rfl rfl (fun m2 em2 => ?_)
  have hw := hw m2 em2
  obtain ⟨n16, hw⟩ := hw
  refine am_forget (ls' := [some (.ref 0), some (.int a1), some (.int (0 : Int32)), some (.int (0 : Int32)), none, none, none]) [true, true, true, true, false, false, false] rfl ?_
  exact slpX5_finishLevel_14  n16 _ _ _ _ hw

def wX5_isGoal (a1 a2 : Int32) (m0 : Mu) (K : Int32 → Prop) : Prop := (vp_in a2 13 ∧ ∀ x1 : Int32, x1 = (m0 15 (a2).toNatClampNeg) → (vp_in x1 6 ∧ (((m0 17 (x1).toNatClampNeg) ≤ 0 → K (0 : Int32)) ∧ (¬ (m0 17 (x1).toNatClampNeg) ≤ 0 → (vp_in ((4 : Int32) * x1) 24 ∧ (((m0 16 (((4 : Int32) * x1)).toNatClampNeg) = a1 → K (1 : Int32)) ∧ (¬ (m0 16 (((4 : Int32) * x1)).toNatClampNeg) = a1 → K (0 : Int32))))))))
set_option maxRecDepth 20000 in
theorem sX5_isGoal {a1 a2 : Int32} {m0 : Mu} {K : Int32 → Prop} (hw : wX5_isGoal a1 a2 m0 K) : am_Met mX5_isGoal [.ref 0, .int a1, .int a2] (fX5 m0) 0 0 (zP (fX5 m0) K) := by
  unfold wX5_isGoal at hw
  refine am_Met.of2 (ls := [some (.ref 0), some (.int a1), some (.int a2), none]) pf_X5_isGoal rfl rfl rfl rfl ?_
  refine am_aload_n dX5_isGoal_0 rfl ?_
  refine am_getf dX5_isGoal_1 fl_X5_42 rfl rfl ?_
  refine am_iload_n dX5_isGoal_4 rfl ?_
  refine am_iaload dX5_isGoal_5 rfl hw.1 ?_
  have hw := hw.2
  refine am_top (fun x1 ex1 => ?_)
  have hw := hw x1 ex1
  refine am_istore_n' (ls' := [some (.ref 0), some (.int a1), some (.int a2), some (.int x1)]) dX5_isGoal_6 rfl rfl rfl ?_
  refine am_aload_n dX5_isGoal_7 rfl ?_
  refine am_getf dX5_isGoal_8 fl_X5_48 rfl rfl ?_
  refine am_iload_n dX5_isGoal_11 rfl ?_
  refine am_iaload dX5_isGoal_12 rfl hw.1 ?_
  have hw := hw.2
  refine am_if_le 32 dX5_isGoal_13 (by decide) (fun c2 => ?_) (fun c2 => ?_)
  · have hw := hw.1 c2
    refine am_iconst dX5_isGoal_32 ic_0 ?_
    exact am_zreturn dX5_isGoal_33 rfl rfl ⟨_, rfl, rfl, hw⟩
  · have hw := hw.2 c2
    refine am_aload_n dX5_isGoal_16 rfl ?_
    refine am_getf dX5_isGoal_17 fl_X5_45 rfl rfl ?_
    refine am_iconst dX5_isGoal_20 ic_4 ?_
    refine am_iload_n dX5_isGoal_21 rfl ?_
    refine am_imul dX5_isGoal_22 ?_
    refine am_iaload dX5_isGoal_23 rfl hw.1 ?_
    have hw := hw.2
    refine am_iload_n dX5_isGoal_24 rfl ?_
    refine am_icmp_ne 32 dX5_isGoal_25 (by decide) (fun c3 => ?_) (fun c3 => ?_)
    · have hw := hw.1 c3
      refine am_iconst dX5_isGoal_28 ic_1 ?_
      refine am_goto 33 dX5_isGoal_29 (by decide) ?_
      exact am_zreturn dX5_isGoal_33 rfl rfl ⟨_, rfl, rfl, hw⟩
    · have hw := hw.2 c3
      refine am_iconst dX5_isGoal_32 ic_0 ?_
      exact am_zreturn dX5_isGoal_33 rfl rfl ⟨_, rfl, rfl, hw⟩

def lpX5_layGoals_107 (K : Mu → Prop) (X0 : Int32 → Int32 → Int32 → Mu → Prop) (X1 : Int32 → Int32 → Int32 → Int32 → Mu → Prop) : Nat → Int32 → Int32 → Int32 → Int32 → Int32 → Int32 → Int32 → Mu → Prop
  | 0, _, _, _, _, _, _, _, _ => False
  | n + 1, v1, v2, v3, v4, v5, v6, v7, m0 => (((12 : Int32) ≤ v7 → ∀ x11 : Int32, x11 = v4 + (1 : Int32) → X1 v1 v2 v3 x11 m0) ∧ (¬ (12 : Int32) ≤ v7 → ((v6 = 0 → ∀ x13 : Int32, x13 = v4 + (1 : Int32) → X1 v1 v2 v3 x13 m0) ∧ (¬ v6 = 0 → wX5_addTurned (v5 + v7) (0 : Int32) (0 : Int32) m0 (fun m14 : Mu => ∀ x15 : Int32, x15 = v7 + (1 : Int32) → lpX5_layGoals_107 K X0 X1 n v1 v2 v3 v4 v5 v6 x15 m14)))))
set_option maxRecDepth 20000 in
theorem slpX5_layGoals_107 {K : Mu → Prop} {X0 : Int32 → Int32 → Int32 → Mu → Prop} {X1 : Int32 → Int32 → Int32 → Int32 → Mu → Prop} (hX0 : ∀ (a0 a1 a2 : Int32) (mm : Mu), X0 a0 a1 a2 mm → am_Ok mX5_layGoals none (zV fX5 K) 0 0 43 [some (.ref 0), some (.int a0), some (.int a1), some (.int a2), none, none, none, none] [] (fX5 mm)) (hX1 : ∀ (a0 a1 a2 a3 : Int32) (mm : Mu), X1 a0 a1 a2 a3 mm → am_Ok mX5_layGoals none (zV fX5 K) 0 0 54 [some (.ref 0), some (.int a0), some (.int a1), some (.int a2), some (.int a3), none, none, none] [] (fX5 mm)) : ∀ (n : Nat) (v1 v2 v3 v4 v5 v6 v7 : Int32) (m0 : Mu), lpX5_layGoals_107 K X0 X1 n v1 v2 v3 v4 v5 v6 v7 m0 → am_Ok mX5_layGoals none (zV fX5 K) 0 0 107 [some (.ref 0), some (.int v1), some (.int v2), some (.int v3), some (.int v4), some (.int v5), some (.int v6), some (.int v7)] [] (fX5 m0) := by
  intro n
  induction n with
  | zero => intro v1 v2 v3 v4 v5 v6 v7 m0 hw; exact False.elim hw
  | succ n ih =>
    intro v1 v2 v3 v4 v5 v6 v7 m0 hw
    unfold lpX5_layGoals_107 at hw
    refine am_iload dX5_layGoals_107 rfl ?_
    refine am_bipush dX5_layGoals_109 bc_12 ?_
    refine am_icmp_ge 136 dX5_layGoals_111 (by decide) (fun c10 => ?_) (fun c10 => ?_)
    · have hw := hw.1 c10
      refine am_iinc' (lf := fun y9 => [some (.ref 0), some (.int v1), some (.int v2), some (.int v3), some (.int y9), some (.int v5), some (.int v6), some (.int v7)]) dX5_layGoals_136 rfl rfl rfl ic_1 (fun _ => rfl) (fun x11 ex11 => ?_)
      have hw := hw x11 ex11
      refine am_goto 54 dX5_layGoals_139 (by decide) ?_
      refine am_forget (ls' := [some (.ref 0), some (.int v1), some (.int v2), some (.int v3), some (.int x11), none, none, none]) [true, true, true, true, true, false, false, false] rfl ?_
      exact hX1 _ _ _ _ _ hw
    · have hw := hw.2 c10
      refine am_iload dX5_layGoals_114 rfl ?_
      refine am_if_eq 136 dX5_layGoals_116 (by decide) (fun c12 => ?_) (fun c12 => ?_)
      · have hw := hw.1 c12
        refine am_iinc' (lf := fun y9 => [some (.ref 0), some (.int v1), some (.int v2), some (.int v3), some (.int y9), some (.int v5), some (.int v6), some (.int v7)]) dX5_layGoals_136 rfl rfl rfl ic_1 (fun _ => rfl) (fun x13 ex13 => ?_)
        have hw := hw x13 ex13
        refine am_goto 54 dX5_layGoals_139 (by decide) ?_
        refine am_forget (ls' := [some (.ref 0), some (.int v1), some (.int v2), some (.int v3), some (.int x13), none, none, none]) [true, true, true, true, true, false, false, false] rfl ?_
        exact hX1 _ _ _ _ _ hw
      · have hw := hw.2 c12
        refine am_aload_n dX5_layGoals_119 rfl ?_
        refine am_iload dX5_layGoals_120 rfl ?_
        refine am_iload dX5_layGoals_122 rfl ?_
        refine am_iadd dX5_layGoals_124 ?_
        refine am_iconst dX5_layGoals_125 ic_0 ?_
        refine am_iconst dX5_layGoals_126 ic_0 ?_
        refine am_selfU fam_X5 rfl dX5_layGoals_127 q_X5_layGoals_201 rfl (sX5_addTurned hw) rfl rfl rfl rfl rfl (fun m14 hw => ?_)
        refine am_iinc' (lf := fun y9 => [some (.ref 0), some (.int v1), some (.int v2), some (.int v3), some (.int v4), some (.int v5), some (.int v6), some (.int y9)]) dX5_layGoals_130 rfl rfl rfl ic_1 (fun _ => rfl) (fun x15 ex15 => ?_)
        have hw := hw x15 ex15
        refine am_goto 107 dX5_layGoals_133 (by decide) ?_
        refine am_forget (ls' := [some (.ref 0), some (.int v1), some (.int v2), some (.int v3), some (.int v4), some (.int v5), some (.int v6), some (.int x15)]) [true, true, true, true, true, true, true, true] rfl ?_
        exact ih _ _ _ _ _ _ _ _ hw
def lpX5_layGoals_54 (K : Mu → Prop) (X0 : Int32 → Int32 → Int32 → Mu → Prop) : Nat → Int32 → Int32 → Int32 → Int32 → Mu → Prop
  | 0, _, _, _, _, _ => False
  | n + 1, v1, v2, v3, v4, m0 => (((m0 32 10) ≤ v4 → ∀ x5 : Int32, x5 = v3 + (1 : Int32) → X0 v1 v2 x5 m0) ∧ (¬ (m0 32 10) ≤ v4 → ∀ x6 : Int32, x6 = (((v3 * (56 : Int32)) + v4) * (12 : Int32)) → wX5_layOut x6 m0 (fun m7 : Mu => wX5_canBe m7 (fun r8 : Int32 => ((r8 = 0 → (∃ n16 : Nat, lpX5_layGoals_107 K (fun a0 a1 a2 mm => X0 a0 a1 a2 mm) (fun a0 a1 a2 a3 mm => lpX5_layGoals_54 K X0 n a0 a1 a2 a3 mm) n16 v1 v2 v3 v4 x6 (0 : Int32) (0 : Int32) m7)) ∧ (¬ r8 = 0 → wX5_isGoal v1 v2 m7 (fun r17 : Int32 => ((r17 = 0 → (∃ n19 : Nat, lpX5_layGoals_107 K (fun a0 a1 a2 mm => X0 a0 a1 a2 mm) (fun a0 a1 a2 a3 mm => lpX5_layGoals_54 K X0 n a0 a1 a2 a3 mm) n19 v1 v2 v3 v4 x6 (0 : Int32) (0 : Int32) m7)) ∧ (¬ r17 = 0 → (∃ n20 : Nat, lpX5_layGoals_107 K (fun a0 a1 a2 mm => X0 a0 a1 a2 mm) (fun a0 a1 a2 a3 mm => lpX5_layGoals_54 K X0 n a0 a1 a2 a3 mm) n20 v1 v2 v3 v4 x6 (1 : Int32) (0 : Int32) m7))))))))))
set_option maxRecDepth 20000 in
theorem slpX5_layGoals_54 {K : Mu → Prop} {X0 : Int32 → Int32 → Int32 → Mu → Prop} (hX0 : ∀ (a0 a1 a2 : Int32) (mm : Mu), X0 a0 a1 a2 mm → am_Ok mX5_layGoals none (zV fX5 K) 0 0 43 [some (.ref 0), some (.int a0), some (.int a1), some (.int a2), none, none, none, none] [] (fX5 mm)) : ∀ (n : Nat) (v1 v2 v3 v4 : Int32) (m0 : Mu), lpX5_layGoals_54 K X0 n v1 v2 v3 v4 m0 → am_Ok mX5_layGoals none (zV fX5 K) 0 0 54 [some (.ref 0), some (.int v1), some (.int v2), some (.int v3), some (.int v4), none, none, none] [] (fX5 m0) := by
  intro n
  induction n with
  | zero => intro v1 v2 v3 v4 m0 hw; exact False.elim hw
  | succ n ih =>
    intro v1 v2 v3 v4 m0 hw
    unfold lpX5_layGoals_54 at hw
    refine am_iload dX5_layGoals_54 rfl ?_
    refine am_aload_n dX5_layGoals_56 rfl ?_
    refine am_getf dX5_layGoals_57 fl_X5_149 rfl rfl ?_
    refine am_icmp_ge 142 dX5_layGoals_60 (by decide) (fun c4 => ?_) (fun c4 => ?_)
    · have hw := hw.1 c4
      refine am_iinc' (lf := fun y9 => [some (.ref 0), some (.int v1), some (.int v2), some (.int y9), some (.int v4), none, none, none]) dX5_layGoals_142 rfl rfl rfl ic_1 (fun _ => rfl) (fun x5 ex5 => ?_)
      have hw := hw x5 ex5
      refine am_goto 43 dX5_layGoals_145 (by decide) ?_
      refine am_forget (ls' := [some (.ref 0), some (.int v1), some (.int v2), some (.int x5), none, none, none, none]) [true, true, true, true, false, false, false, false] rfl ?_
      exact hX0 _ _ _ _ hw
    · have hw := hw.2 c4
      refine am_iload_n dX5_layGoals_63 rfl ?_
      refine am_bipush dX5_layGoals_64 bc_56 ?_
      refine am_imul dX5_layGoals_66 ?_
      refine am_iload dX5_layGoals_67 rfl ?_
      refine am_iadd dX5_layGoals_69 ?_
      refine am_bipush dX5_layGoals_70 bc_12 ?_
      refine am_imul dX5_layGoals_72 ?_
      refine am_top (fun x6 ex6 => ?_)
      have hw := hw x6 ex6
      refine am_istore' (ls' := [some (.ref 0), some (.int v1), some (.int v2), some (.int v3), some (.int v4), some (.int x6), none, none]) dX5_layGoals_73 rfl rfl rfl ?_
      refine am_aload_n dX5_layGoals_75 rfl ?_
      refine am_iload dX5_layGoals_76 rfl ?_
      refine am_selfU fam_X5 rfl dX5_layGoals_78 q_X5_layGoals_162 rfl (sX5_layOut hw) rfl rfl rfl rfl rfl (fun m7 hw => ?_)
      refine am_aload_n dX5_layGoals_81 rfl ?_
      refine am_selfP fam_X5 rfl dX5_layGoals_82 q_X5_layGoals_193 rfl (sX5_canBe hw) rfl rfl rfl rfl rfl (fun r8 hw => ?_)
      refine am_if_eq 101 dX5_layGoals_85 (by decide) (fun c9 => ?_) (fun c9 => ?_)
      · have hw := hw.1 c9
        refine am_iconst dX5_layGoals_101 ic_0 ?_
        refine am_istore' (ls' := [some (.ref 0), some (.int v1), some (.int v2), some (.int v3), some (.int v4), some (.int x6), some (.int (0 : Int32)), none]) dX5_layGoals_102 rfl rfl rfl ?_
        refine am_iconst dX5_layGoals_104 ic_0 ?_
        refine am_istore' (ls' := [some (.ref 0), some (.int v1), some (.int v2), some (.int v3), some (.int v4), some (.int x6), some (.int (0 : Int32)), some (.int (0 : Int32))]) dX5_layGoals_105 rfl rfl rfl ?_
        obtain ⟨n16, hw⟩ := hw
        refine am_forget (ls' := [some (.ref 0), some (.int v1), some (.int v2), some (.int v3), some (.int v4), some (.int x6), some (.int (0 : Int32)), some (.int (0 : Int32))]) [true, true, true, true, true, true, true, true] rfl ?_
        exact slpX5_layGoals_107 (fun a0 a1 a2 mm hq => hX0 a0 a1 a2 mm hq) (fun a0 a1 a2 a3 mm hq => ih a0 a1 a2 a3 mm hq) n16 _ _ _ _ _ _ _ _ hw
      · have hw := hw.2 c9
        refine am_aload_n dX5_layGoals_88 rfl ?_
        refine am_iload_n dX5_layGoals_89 rfl ?_
        refine am_iload_n dX5_layGoals_90 rfl ?_
        refine am_selfP fam_X5 rfl dX5_layGoals_91 q_X5_layGoals_197 rfl (sX5_isGoal hw) rfl rfl rfl rfl rfl (fun r17 hw => ?_)
        refine am_if_eq 101 dX5_layGoals_94 (by decide) (fun c18 => ?_) (fun c18 => ?_)
        · have hw := hw.1 c18
          refine am_iconst dX5_layGoals_101 ic_0 ?_
          refine am_istore' (ls' := [some (.ref 0), some (.int v1), some (.int v2), some (.int v3), some (.int v4), some (.int x6), some (.int (0 : Int32)), none]) dX5_layGoals_102 rfl rfl rfl ?_
          refine am_iconst dX5_layGoals_104 ic_0 ?_
          refine am_istore' (ls' := [some (.ref 0), some (.int v1), some (.int v2), some (.int v3), some (.int v4), some (.int x6), some (.int (0 : Int32)), some (.int (0 : Int32))]) dX5_layGoals_105 rfl rfl rfl ?_
          obtain ⟨n19, hw⟩ := hw
          refine am_forget (ls' := [some (.ref 0), some (.int v1), some (.int v2), some (.int v3), some (.int v4), some (.int x6), some (.int (0 : Int32)), some (.int (0 : Int32))]) [true, true, true, true, true, true, true, true] rfl ?_
          exact slpX5_layGoals_107 (fun a0 a1 a2 mm hq => hX0 a0 a1 a2 mm hq) (fun a0 a1 a2 a3 mm hq => ih a0 a1 a2 a3 mm hq) n19 _ _ _ _ _ _ _ _ hw
        · have hw := hw.2 c18
          refine am_iconst dX5_layGoals_97 ic_1 ?_
          refine am_goto 102 dX5_layGoals_98 (by decide) ?_
          refine am_istore' (ls' := [some (.ref 0), some (.int v1), some (.int v2), some (.int v3), some (.int v4), some (.int x6), some (.int (1 : Int32)), none]) dX5_layGoals_102 rfl rfl rfl ?_
          refine am_iconst dX5_layGoals_104 ic_0 ?_
          refine am_istore' (ls' := [some (.ref 0), some (.int v1), some (.int v2), some (.int v3), some (.int v4), some (.int x6), some (.int (1 : Int32)), some (.int (0 : Int32))]) dX5_layGoals_105 rfl rfl rfl ?_
          obtain ⟨n20, hw⟩ := hw
          refine am_forget (ls' := [some (.ref 0), some (.int v1), some (.int v2), some (.int v3), some (.int v4), some (.int x6), some (.int (1 : Int32)), some (.int (0 : Int32))]) [true, true, true, true, true, true, true, true] rfl ?_
          exact slpX5_layGoals_107 (fun a0 a1 a2 mm hq => hX0 a0 a1 a2 mm hq) (fun a0 a1 a2 a3 mm hq => ih a0 a1 a2 a3 mm hq) n20 _ _ _ _ _ _ _ _ hw
def lpX5_layGoals_43 (K : Mu → Prop)  : Nat → Int32 → Int32 → Int32 → Mu → Prop
  | 0, _, _, _, _ => False
  | n + 1, v1, v2, v3, m0 => (((m0 32 7) ≤ v3 → K m0) ∧ (¬ (m0 32 7) ≤ v3 → (∃ n21 : Nat, lpX5_layGoals_54 K (fun a0 a1 a2 mm => lpX5_layGoals_43 K n a0 a1 a2 mm) n21 v1 v2 v3 (0 : Int32) m0)))
set_option maxRecDepth 20000 in
theorem slpX5_layGoals_43 {K : Mu → Prop} : ∀ (n : Nat) (v1 v2 v3 : Int32) (m0 : Mu), lpX5_layGoals_43 K n v1 v2 v3 m0 → am_Ok mX5_layGoals none (zV fX5 K) 0 0 43 [some (.ref 0), some (.int v1), some (.int v2), some (.int v3), none, none, none, none] [] (fX5 m0) := by
  intro n
  induction n with
  | zero => intro v1 v2 v3 m0 hw; exact False.elim hw
  | succ n ih =>
    intro v1 v2 v3 m0 hw
    unfold lpX5_layGoals_43 at hw
    refine am_iload_n dX5_layGoals_43 rfl ?_
    refine am_aload_n dX5_layGoals_44 rfl ?_
    refine am_getf dX5_layGoals_45 fl_X5_146 rfl rfl ?_
    refine am_icmp_ge 148 dX5_layGoals_48 (by decide) (fun c3 => ?_) (fun c3 => ?_)
    · have hw := hw.1 c3
      exact am_vreturn dX5_layGoals_148 rfl ⟨_, rfl, rfl, hw⟩
    · have hw := hw.2 c3
      refine am_iconst dX5_layGoals_51 ic_0 ?_
      refine am_istore' (ls' := [some (.ref 0), some (.int v1), some (.int v2), some (.int v3), some (.int (0 : Int32)), none, none, none]) dX5_layGoals_52 rfl rfl rfl ?_
      obtain ⟨n21, hw⟩ := hw
      refine am_forget (ls' := [some (.ref 0), some (.int v1), some (.int v2), some (.int v3), some (.int (0 : Int32)), none, none, none]) [true, true, true, true, true, false, false, false] rfl ?_
      exact slpX5_layGoals_54 (fun a0 a1 a2 mm hq => ih a0 a1 a2 mm hq) n21 _ _ _ _ _ hw
def lpX5_layGoals_7 (K : Mu → Prop)  : Nat → Int32 → Int32 → Int32 → Mu → Prop
  | 0, _, _, _, _ => False
  | n + 1, v1, v2, v3, m0 => (((4032 : Int32) ≤ v3 → (∃ n22 : Nat, lpX5_layGoals_43 K n22 v1 v2 (0 : Int32) m0)) ∧ (¬ (4032 : Int32) ≤ v3 → (vp_in v3 4032 ∧ ∀ m23 : Mu, m23 = mu_up m0 21 (v3).toNatClampNeg (vp_nar .boolean (0 : Int32)) → (vp_in v3 4032 ∧ ∀ m24 : Mu, m24 = mu_up m23 27 (v3).toNatClampNeg (-1 : Int32) → (vp_in v3 4032 ∧ ∀ m25 : Mu, m25 = mu_up m24 28 (v3).toNatClampNeg (-1 : Int32) → ∀ x26 : Int32, x26 = v3 + (1 : Int32) → lpX5_layGoals_7 K n v1 v2 x26 m25)))))
set_option maxRecDepth 20000 in
theorem slpX5_layGoals_7 {K : Mu → Prop} : ∀ (n : Nat) (v1 v2 v3 : Int32) (m0 : Mu), lpX5_layGoals_7 K n v1 v2 v3 m0 → am_Ok mX5_layGoals none (zV fX5 K) 0 0 7 [some (.ref 0), some (.int v1), some (.int v2), some (.int v3), none, none, none, none] [] (fX5 m0) := by
  intro n
  induction n with
  | zero => intro v1 v2 v3 m0 hw; exact False.elim hw
  | succ n ih =>
    intro v1 v2 v3 m0 hw
    unfold lpX5_layGoals_7 at hw
    refine am_iload_n dX5_layGoals_7 rfl ?_
    refine am_sipush dX5_layGoals_8 sc_4032 ?_
    refine am_icmp_ge 41 dX5_layGoals_11 (by decide) (fun c2 => ?_) (fun c2 => ?_)
    · have hw := hw.1 c2
      refine am_iconst dX5_layGoals_41 ic_0 ?_
      refine am_istore_n' (ls' := [some (.ref 0), some (.int v1), some (.int v2), some (.int (0 : Int32)), none, none, none, none]) dX5_layGoals_42 rfl rfl rfl ?_
      obtain ⟨n22, hw⟩ := hw
      refine am_forget (ls' := [some (.ref 0), some (.int v1), some (.int v2), some (.int (0 : Int32)), none, none, none, none]) [true, true, true, true, false, false, false, false] rfl ?_
      exact slpX5_layGoals_43  n22 _ _ _ _ hw
    · have hw := hw.2 c2
      refine am_aload_n dX5_layGoals_14 rfl ?_
      refine am_getf dX5_layGoals_15 fl_X5_57 rfl rfl ?_
      refine am_iload_n dX5_layGoals_18 rfl ?_
      refine am_iconst dX5_layGoals_19 ic_0 ?_
      refine am_bastore' (F := fX5) (m := mu_up m0 21 (v3).toNatClampNeg (vp_nar .boolean (0 : Int32))) dX5_layGoals_20 rfl hw.1 rfl (fun m23 em23 => ?_)
      have hw := hw.2 m23 em23
      refine am_aload_n dX5_layGoals_21 rfl ?_
      refine am_getf dX5_layGoals_22 fl_X5_75 rfl rfl ?_
      refine am_iload_n dX5_layGoals_25 rfl ?_
      refine am_iconst dX5_layGoals_26 ic_m1 ?_
      refine am_iastore' (F := fX5) (m := mu_up m23 27 (v3).toNatClampNeg (-1 : Int32)) dX5_layGoals_27 rfl hw.1 rfl (fun m24 em24 => ?_)
      have hw := hw.2 m24 em24
      refine am_aload_n dX5_layGoals_28 rfl ?_
      refine am_getf dX5_layGoals_29 fl_X5_78 rfl rfl ?_
      refine am_iload_n dX5_layGoals_32 rfl ?_
      refine am_iconst dX5_layGoals_33 ic_m1 ?_
      refine am_iastore' (F := fX5) (m := mu_up m24 28 (v3).toNatClampNeg (-1 : Int32)) dX5_layGoals_34 rfl hw.1 rfl (fun m25 em25 => ?_)
      have hw := hw.2 m25 em25
      refine am_iinc' (lf := fun y9 => [some (.ref 0), some (.int v1), some (.int v2), some (.int y9), none, none, none, none]) dX5_layGoals_35 rfl rfl rfl ic_1 (fun _ => rfl) (fun x26 ex26 => ?_)
      have hw := hw x26 ex26
      refine am_goto 7 dX5_layGoals_38 (by decide) ?_
      refine am_forget (ls' := [some (.ref 0), some (.int v1), some (.int v2), some (.int x26), none, none, none, none]) [true, true, true, true, false, false, false, false] rfl ?_
      exact ih _ _ _ _ hw
def wX5_layGoals (a1 a2 : Int32) (m0 : Mu) (K : Mu → Prop) : Prop := ∀ m1 : Mu, m1 = mu_up m0 32 29 (0 : Int32) → (∃ n27 : Nat, lpX5_layGoals_7 K n27 a1 a2 (0 : Int32) m1)
set_option maxRecDepth 20000 in
theorem sX5_layGoals {a1 a2 : Int32} {m0 : Mu} {K : Mu → Prop} (hw : wX5_layGoals a1 a2 m0 K) : am_Met mX5_layGoals [.ref 0, .int a1, .int a2] (fX5 m0) 0 0 (zV fX5 K) := by
  unfold wX5_layGoals at hw
  refine am_Met.of2 (ls := [some (.ref 0), some (.int a1), some (.int a2), none, none, none, none, none]) pf_X5_layGoals rfl rfl rfl rfl ?_
  refine am_aload_n dX5_layGoals_0 rfl ?_
  refine am_iconst dX5_layGoals_1 ic_0 ?_
  refine am_putf' (F := fX5) (m := mu_up m0 32 29 (0 : Int32)) dX5_layGoals_2 fp_X5_175 rfl rfl rfl (fun m1 em1 => ?_)
  have hw := hw m1 em1
  refine am_iconst dX5_layGoals_5 ic_0 ?_
  refine am_istore_n' (ls' := [some (.ref 0), some (.int a1), some (.int a2), some (.int (0 : Int32)), none, none, none, none]) dX5_layGoals_6 rfl rfl rfl ?_
  obtain ⟨n27, hw⟩ := hw
  refine am_forget (ls' := [some (.ref 0), some (.int a1), some (.int a2), some (.int (0 : Int32)), none, none, none, none]) [true, true, true, true, false, false, false, false] rfl ?_
  exact slpX5_layGoals_7  n27 _ _ _ _ hw

def lpX5_layAll_53 (K : Mu → Prop) (X0 : Int32 → Mu → Prop) : Nat → Int32 → Int32 → Mu → Prop
  | 0, _, _, _ => False
  | n + 1, v3, v4, m0 => (((m0 32 31) ≤ v4 → X0 v3 m0) ∧ (¬ (m0 32 31) ≤ v4 → (vp_in v4 4032 ∧ wX5_behind (m0 24 (v4).toNatClampNeg) (0 : Int32) m0 (fun (r9 : Int32) (m10 : Mu) => (vp_in v4 4032 ∧ (vp_in (m10 24 (v4).toNatClampNeg) 4032 ∧ wX5_addTurned r9 ((m10 20 ((m10 24 (v4).toNatClampNeg)).toNatClampNeg) + (1 : Int32)) v3 m10 (fun m11 : Mu => (vp_in v4 4032 ∧ wX5_behind (m11 24 (v4).toNatClampNeg) (1 : Int32) m11 (fun (r12 : Int32) (m13 : Mu) => (vp_in v4 4032 ∧ (vp_in (m13 24 (v4).toNatClampNeg) 4032 ∧ wX5_addTurned r12 ((m13 20 ((m13 24 (v4).toNatClampNeg)).toNatClampNeg) + (1 : Int32)) v3 m13 (fun m14 : Mu => ∀ x15 : Int32, x15 = v4 + (1 : Int32) → lpX5_layAll_53 K X0 n v3 x15 m14))))))))))))
set_option maxRecDepth 20000 in
theorem slpX5_layAll_53 {K : Mu → Prop} {X0 : Int32 → Mu → Prop} (hX0 : ∀ (a0 : Int32) (mm : Mu), X0 a0 mm → am_Ok mX5_layAll none (zV fX5 K) 0 0 30 [some (.ref 0), none, none, some (.int a0), none] [] (fX5 mm)) : ∀ (n : Nat) (v3 v4 : Int32) (m0 : Mu), lpX5_layAll_53 K X0 n v3 v4 m0 → am_Ok mX5_layAll none (zV fX5 K) 0 0 53 [some (.ref 0), none, none, some (.int v3), some (.int v4)] [] (fX5 m0) := by
  intro n
  induction n with
  | zero => intro v3 v4 m0 hw; exact False.elim hw
  | succ n ih =>
    intro v3 v4 m0 hw
    unfold lpX5_layAll_53 at hw
    refine am_iload dX5_layAll_53 rfl ?_
    refine am_aload_n dX5_layAll_55 rfl ?_
    refine am_getf dX5_layAll_56 fl_X5_181 rfl rfl ?_
    refine am_icmp_ge 130 dX5_layAll_59 (by decide) (fun c8 => ?_) (fun c8 => ?_)
    · have hw := hw.1 c8
      refine am_goto 30 dX5_layAll_130 (by decide) ?_
      refine am_forget (ls' := [some (.ref 0), none, none, some (.int v3), none]) [true, false, false, true, false] rfl ?_
      exact hX0 _ _ hw
    · have hw := hw.2 c8
      refine am_aload_n dX5_layAll_62 rfl ?_
      refine am_aload_n dX5_layAll_63 rfl ?_
      refine am_aload_n dX5_layAll_64 rfl ?_
      refine am_getf dX5_layAll_65 fl_X5_66 rfl rfl ?_
      refine am_iload dX5_layAll_68 rfl ?_
      refine am_iaload dX5_layAll_70 rfl hw.1 ?_
      have hw := hw.2
      refine am_iconst dX5_layAll_71 ic_0 ?_
      refine am_selfI fam_X5 rfl dX5_layAll_72 q_X5_layAll_184 rfl (sX5_behind hw) rfl rfl rfl rfl rfl (fun r9 m10 hw => ?_)
      refine am_aload_n dX5_layAll_75 rfl ?_
      refine am_getf dX5_layAll_76 fl_X5_54 rfl rfl ?_
      refine am_aload_n dX5_layAll_79 rfl ?_
      refine am_getf dX5_layAll_80 fl_X5_66 rfl rfl ?_
      refine am_iload dX5_layAll_83 rfl ?_
      refine am_iaload dX5_layAll_85 rfl hw.1 ?_
      have hw := hw.2
      refine am_iaload dX5_layAll_86 rfl hw.1 ?_
      have hw := hw.2
      refine am_iconst dX5_layAll_87 ic_1 ?_
      refine am_iadd dX5_layAll_88 ?_
      refine am_iload_n dX5_layAll_89 rfl ?_
      refine am_selfU fam_X5 rfl dX5_layAll_90 q_X5_layAll_201 rfl (sX5_addTurned hw) rfl rfl rfl rfl rfl (fun m11 hw => ?_)
      refine am_aload_n dX5_layAll_93 rfl ?_
      refine am_aload_n dX5_layAll_94 rfl ?_
      refine am_aload_n dX5_layAll_95 rfl ?_
      refine am_getf dX5_layAll_96 fl_X5_66 rfl rfl ?_
      refine am_iload dX5_layAll_99 rfl ?_
      refine am_iaload dX5_layAll_101 rfl hw.1 ?_
      have hw := hw.2
      refine am_iconst dX5_layAll_102 ic_1 ?_
      refine am_selfI fam_X5 rfl dX5_layAll_103 q_X5_layAll_184 rfl (sX5_behind hw) rfl rfl rfl rfl rfl (fun r12 m13 hw => ?_)
      refine am_aload_n dX5_layAll_106 rfl ?_
      refine am_getf dX5_layAll_107 fl_X5_54 rfl rfl ?_
      refine am_aload_n dX5_layAll_110 rfl ?_
      refine am_getf dX5_layAll_111 fl_X5_66 rfl rfl ?_
      refine am_iload dX5_layAll_114 rfl ?_
      refine am_iaload dX5_layAll_116 rfl hw.1 ?_
      have hw := hw.2
      refine am_iaload dX5_layAll_117 rfl hw.1 ?_
      have hw := hw.2
      refine am_iconst dX5_layAll_118 ic_1 ?_
      refine am_iadd dX5_layAll_119 ?_
      refine am_iload_n dX5_layAll_120 rfl ?_
      refine am_selfU fam_X5 rfl dX5_layAll_121 q_X5_layAll_201 rfl (sX5_addTurned hw) rfl rfl rfl rfl rfl (fun m14 hw => ?_)
      refine am_iinc' (lf := fun y9 => [some (.ref 0), none, none, some (.int v3), some (.int y9)]) dX5_layAll_124 rfl rfl rfl ic_1 (fun _ => rfl) (fun x15 ex15 => ?_)
      have hw := hw x15 ex15
      refine am_goto 53 dX5_layAll_127 (by decide) ?_
      refine am_forget (ls' := [some (.ref 0), none, none, some (.int v3), some (.int x15)]) [true, false, false, true, true] rfl ?_
      exact ih _ _ _ hw
def lpX5_layAll_30 (K : Mu → Prop)  : Nat → Int32 → Mu → Prop
  | 0, _, _ => False
  | n + 1, v3, m0 => (((m0 32 29) ≤ 0 → K m0) ∧ (¬ (m0 32 29) ≤ 0 → wX5_finishLevel v3 m0 (fun m5 : Mu => ∀ x6 : Int32, x6 = v3 + (1 : Int32) → ∀ m7 : Mu, m7 = mu_up m5 32 29 (0 : Int32) → (∃ n16 : Nat, lpX5_layAll_53 K (fun a0 mm => lpX5_layAll_30 K n a0 mm) n16 x6 (0 : Int32) m7))))
set_option maxRecDepth 20000 in
theorem slpX5_layAll_30 {K : Mu → Prop} : ∀ (n : Nat) (v3 : Int32) (m0 : Mu), lpX5_layAll_30 K n v3 m0 → am_Ok mX5_layAll none (zV fX5 K) 0 0 30 [some (.ref 0), none, none, some (.int v3), none] [] (fX5 m0) := by
  intro n
  induction n with
  | zero => intro v3 m0 hw; exact False.elim hw
  | succ n ih =>
    intro v3 m0 hw
    unfold lpX5_layAll_30 at hw
    refine am_aload_n dX5_layAll_30 rfl ?_
    refine am_getf dX5_layAll_31 fl_X5_175 rfl rfl ?_
    refine am_if_le 133 dX5_layAll_34 (by decide) (fun c4 => ?_) (fun c4 => ?_)
    · have hw := hw.1 c4
      exact am_vreturn dX5_layAll_133 rfl ⟨_, rfl, rfl, hw⟩
    · have hw := hw.2 c4
      refine am_aload_n dX5_layAll_37 rfl ?_
      refine am_iload_n dX5_layAll_38 rfl ?_
      refine am_selfU fam_X5 rfl dX5_layAll_39 q_X5_layAll_213 rfl (sX5_finishLevel hw) rfl rfl rfl rfl rfl (fun m5 hw => ?_)
      refine am_iinc' (lf := fun y9 => [some (.ref 0), none, none, some (.int y9), none]) dX5_layAll_42 rfl rfl rfl ic_1 (fun _ => rfl) (fun x6 ex6 => ?_)
      have hw := hw x6 ex6
      refine am_aload_n dX5_layAll_45 rfl ?_
      refine am_iconst dX5_layAll_46 ic_0 ?_
      refine am_putf' (F := fX5) (m := mu_up m5 32 29 (0 : Int32)) dX5_layAll_47 fp_X5_175 rfl rfl rfl (fun m7 em7 => ?_)
      have hw := hw m7 em7
      refine am_iconst dX5_layAll_50 ic_0 ?_
      refine am_istore' (ls' := [some (.ref 0), none, none, some (.int x6), some (.int (0 : Int32))]) dX5_layAll_51 rfl rfl rfl ?_
      obtain ⟨n16, hw⟩ := hw
      refine am_forget (ls' := [some (.ref 0), none, none, some (.int x6), some (.int (0 : Int32))]) [true, false, false, true, true] rfl ?_
      exact slpX5_layAll_53 (fun a0 mm hq => ih a0 mm hq) n16 _ _ _ hw
def wX5_layAll (a1 a2 : Int32) (m0 : Mu) (K : Mu → Prop) : Prop := (vp_in (14 : Int32) 148 ∧ wX5_layOrders (m0 0 ((14 : Int32)).toNatClampNeg) m0 (fun m1 : Mu => (vp_in (14 : Int32) 148 ∧ wX5_layWays (m1 0 ((14 : Int32)).toNatClampNeg) m1 (fun m2 : Mu => wX5_layGoals a1 a2 m2 (fun m3 : Mu => (∃ n17 : Nat, lpX5_layAll_30 K n17 (0 : Int32) m3))))))
set_option maxRecDepth 20000 in
theorem sX5_layAll {a1 a2 : Int32} {m0 : Mu} {K : Mu → Prop} (hw : wX5_layAll a1 a2 m0 K) : am_Met mX5_layAll [.ref 0, .int a1, .int a2] (fX5 m0) 0 0 (zV fX5 K) := by
  unfold wX5_layAll at hw
  refine am_Met.of2 (ls := [some (.ref 0), some (.int a1), some (.int a2), none, none]) pf_X5_layAll rfl rfl rfl rfl ?_
  refine am_aload_n dX5_layAll_0 rfl ?_
  refine am_aload_n dX5_layAll_1 rfl ?_
  refine am_getf dX5_layAll_2 fl_X5_7 rfl rfl ?_
  refine am_bipush dX5_layAll_5 bc_14 ?_
  refine am_iaload dX5_layAll_7 rfl hw.1 ?_
  have hw := hw.2
  refine am_selfU fam_X5 rfl dX5_layAll_8 q_X5_layAll_204 rfl (sX5_layOrders hw) rfl rfl rfl rfl rfl (fun m1 hw => ?_)
  refine am_aload_n dX5_layAll_11 rfl ?_
  refine am_aload_n dX5_layAll_12 rfl ?_
  refine am_getf dX5_layAll_13 fl_X5_7 rfl rfl ?_
  refine am_bipush dX5_layAll_16 bc_14 ?_
  refine am_iaload dX5_layAll_18 rfl hw.1 ?_
  have hw := hw.2
  refine am_selfU fam_X5 rfl dX5_layAll_19 q_X5_layAll_207 rfl (sX5_layWays hw) rfl rfl rfl rfl rfl (fun m2 hw => ?_)
  refine am_aload_n dX5_layAll_22 rfl ?_
  refine am_iload_n dX5_layAll_23 rfl ?_
  refine am_iload_n dX5_layAll_24 rfl ?_
  refine am_selfU fam_X5 rfl dX5_layAll_25 q_X5_layAll_210 rfl (sX5_layGoals hw) rfl rfl rfl rfl rfl (fun m3 hw => ?_)
  refine am_iconst dX5_layAll_28 ic_0 ?_
  refine am_istore_n' (ls' := [some (.ref 0), some (.int a1), some (.int a2), some (.int (0 : Int32)), none]) dX5_layAll_29 rfl rfl rfl ?_
  obtain ⟨n17, hw⟩ := hw
  refine am_forget (ls' := [some (.ref 0), none, none, some (.int (0 : Int32)), none]) [true, false, false, true, false] rfl ?_
  exact slpX5_layAll_30  n17 _ _ hw

def lpX5_situationNow_57 (K : Int32 → Mu → Prop) (X0 : Int32 → Mu → Prop) : Nat → Int32 → Int32 → Int32 → Mu → Prop
  | 0, _, _, _, _ => False
  | n + 1, v1, v2, v3, m0 => (vp_in v1 6 ∧ (((m0 17 (v1).toNatClampNeg) ≤ v3 → ∀ x8 : Int32, x8 = v1 + (1 : Int32) → X0 x8 m0) ∧ (¬ (m0 17 (v1).toNatClampNeg) ≤ v3 → wX5_cell v2 v3 m0 (fun r9 : Int32 => (vp_in r9 148 ∧ (vp_in (((4 : Int32) * v1) + v3) 24 ∧ ∀ m10 : Mu, m10 = mu_up m0 16 ((((4 : Int32) * v1) + v3)).toNatClampNeg (m0 0 (r9).toNatClampNeg) → ∀ x11 : Int32, x11 = v3 + (1 : Int32) → lpX5_situationNow_57 K X0 n v1 v2 x11 m10))))))
set_option maxRecDepth 20000 in
theorem slpX5_situationNow_57 {K : Int32 → Mu → Prop} {X0 : Int32 → Mu → Prop} (hX0 : ∀ (a0 : Int32) (mm : Mu), X0 a0 mm → am_Ok mX5_situationNow none (zI fX5 K) 0 0 2 [some (.ref 0), some (.int a0), none, none] [] (fX5 mm)) : ∀ (n : Nat) (v1 v2 v3 : Int32) (m0 : Mu), lpX5_situationNow_57 K X0 n v1 v2 v3 m0 → am_Ok mX5_situationNow none (zI fX5 K) 0 0 57 [some (.ref 0), some (.int v1), some (.int v2), some (.int v3)] [] (fX5 m0) := by
  intro n
  induction n with
  | zero => intro v1 v2 v3 m0 hw; exact False.elim hw
  | succ n ih =>
    intro v1 v2 v3 m0 hw
    unfold lpX5_situationNow_57 at hw
    refine am_iload_n dX5_situationNow_57 rfl ?_
    refine am_aload_n dX5_situationNow_58 rfl ?_
    refine am_getf dX5_situationNow_59 fl_X5_48 rfl rfl ?_
    refine am_iload_n dX5_situationNow_62 rfl ?_
    refine am_iaload dX5_situationNow_63 rfl hw.1 ?_
    have hw := hw.2
    refine am_icmp_ge 94 dX5_situationNow_64 (by decide) (fun c7 => ?_) (fun c7 => ?_)
    · have hw := hw.1 c7
      refine am_iinc' (lf := fun y9 => [some (.ref 0), some (.int y9), some (.int v2), some (.int v3)]) dX5_situationNow_94 rfl rfl rfl ic_1 (fun _ => rfl) (fun x8 ex8 => ?_)
      have hw := hw x8 ex8
      refine am_goto 2 dX5_situationNow_97 (by decide) ?_
      refine am_forget (ls' := [some (.ref 0), some (.int x8), none, none]) [true, true, false, false] rfl ?_
      exact hX0 _ _ hw
    · have hw := hw.2 c7
      refine am_aload_n dX5_situationNow_67 rfl ?_
      refine am_getf dX5_situationNow_68 fl_X5_45 rfl rfl ?_
      refine am_iconst dX5_situationNow_71 ic_4 ?_
      refine am_iload_n dX5_situationNow_72 rfl ?_
      refine am_imul dX5_situationNow_73 ?_
      refine am_iload_n dX5_situationNow_74 rfl ?_
      refine am_iadd dX5_situationNow_75 ?_
      refine am_aload_n dX5_situationNow_76 rfl ?_
      refine am_getf dX5_situationNow_77 fl_X5_7 rfl rfl ?_
      refine am_aload_n dX5_situationNow_80 rfl ?_
      refine am_iload_n dX5_situationNow_81 rfl ?_
      refine am_iload_n dX5_situationNow_82 rfl ?_
      refine am_selfP fam_X5 rfl dX5_situationNow_83 q_X5_situationNow_88 rfl (sX5_cell hw) rfl rfl rfl rfl rfl (fun r9 hw => ?_)
      refine am_iaload dX5_situationNow_86 rfl hw.1 ?_
      have hw := hw.2
      refine am_iastore' (F := fX5) (m := mu_up m0 16 ((((4 : Int32) * v1) + v3)).toNatClampNeg (m0 0 (r9).toNatClampNeg)) dX5_situationNow_87 rfl hw.1 rfl (fun m10 em10 => ?_)
      have hw := hw.2 m10 em10
      refine am_iinc' (lf := fun y9 => [some (.ref 0), some (.int v1), some (.int v2), some (.int y9)]) dX5_situationNow_88 rfl rfl rfl ic_1 (fun _ => rfl) (fun x11 ex11 => ?_)
      have hw := hw x11 ex11
      refine am_goto 57 dX5_situationNow_91 (by decide) ?_
      refine am_forget (ls' := [some (.ref 0), some (.int v1), some (.int v2), some (.int x11)]) [true, true, true, true] rfl ?_
      exact ih _ _ _ _ hw
def jnX5_situationNow_27 (K : Int32 → Mu → Prop) (X0 : Int32 → Mu → Prop) (v1 u0 : Int32) (m0 : Mu) : Prop := (((m0 32 13) < v1 → (vp_in v1 6 ∧ ∀ m6 : Mu, m6 = mu_up m0 17 (v1).toNatClampNeg (0 : Int32) → (∃ n12 : Nat, lpX5_situationNow_57 K (fun a0 mm => X0 a0 mm) n12 v1 u0 (0 : Int32) m6))) ∧ (¬ (m0 32 13) < v1 → (vp_in ((31 : Int32) + u0) 148 ∧ (vp_in v1 6 ∧ ∀ m13 : Mu, m13 = mu_up m0 17 (v1).toNatClampNeg (m0 0 (((31 : Int32) + u0)).toNatClampNeg) → (∃ n14 : Nat, lpX5_situationNow_57 K (fun a0 mm => X0 a0 mm) n14 v1 u0 (0 : Int32) m13)))))
set_option maxRecDepth 20000 in
theorem sjnX5_situationNow_27 {m0 : Mu} {K : Int32 → Mu → Prop} {X0 : Int32 → Mu → Prop} (hX0 : ∀ (a0 : Int32) (mm : Mu), X0 a0 mm → am_Ok mX5_situationNow none (zI fX5 K) 0 0 2 [some (.ref 0), some (.int a0), none, none] [] (fX5 mm)) {v1 u0 : Int32} (hw : jnX5_situationNow_27 K X0 v1 u0 m0) : am_Ok mX5_situationNow none (zI fX5 K) 0 0 27 [some (.ref 0), some (.int v1), none, none] [.int u0] (fX5 m0) := by
  unfold jnX5_situationNow_27 at hw
  refine am_istore_n' (ls' := [some (.ref 0), some (.int v1), some (.int u0), none]) dX5_situationNow_27 rfl rfl rfl ?_
  refine am_aload_n dX5_situationNow_28 rfl ?_
  refine am_getf dX5_situationNow_29 fl_X5_48 rfl rfl ?_
  refine am_iload_n dX5_situationNow_32 rfl ?_
  refine am_iload_n dX5_situationNow_33 rfl ?_
  refine am_aload_n dX5_situationNow_34 rfl ?_
  refine am_getf dX5_situationNow_35 fl_X5_152 rfl rfl ?_
  refine am_icmp_gt 53 dX5_situationNow_38 (by decide) (fun c5 => ?_) (fun c5 => ?_)
  · have hw := hw.1 c5
    refine am_iconst dX5_situationNow_53 ic_0 ?_
    refine am_iastore' (F := fX5) (m := mu_up m0 17 (v1).toNatClampNeg (0 : Int32)) dX5_situationNow_54 rfl hw.1 rfl (fun m6 em6 => ?_)
    have hw := hw.2 m6 em6
    refine am_iconst dX5_situationNow_55 ic_0 ?_
    refine am_istore_n' (ls' := [some (.ref 0), some (.int v1), some (.int u0), some (.int (0 : Int32))]) dX5_situationNow_56 rfl rfl rfl ?_
    obtain ⟨n12, hw⟩ := hw
    refine am_forget (ls' := [some (.ref 0), some (.int v1), some (.int u0), some (.int (0 : Int32))]) [true, true, true, true] rfl ?_
    exact slpX5_situationNow_57 (fun a0 mm hq => hX0 a0 mm hq) n12 _ _ _ _ hw
  · have hw := hw.2 c5
    refine am_aload_n dX5_situationNow_41 rfl ?_
    refine am_getf dX5_situationNow_42 fl_X5_7 rfl rfl ?_
    refine am_bipush dX5_situationNow_45 bc_31 ?_
    refine am_iload_n dX5_situationNow_47 rfl ?_
    refine am_iadd dX5_situationNow_48 ?_
    refine am_iaload dX5_situationNow_49 rfl hw.1 ?_
    have hw := hw.2
    refine am_goto 54 dX5_situationNow_50 (by decide) ?_
    refine am_iastore' (F := fX5) (m := mu_up m0 17 (v1).toNatClampNeg (m0 0 (((31 : Int32) + u0)).toNatClampNeg)) dX5_situationNow_54 rfl hw.1 rfl (fun m13 em13 => ?_)
    have hw := hw.2 m13 em13
    refine am_iconst dX5_situationNow_55 ic_0 ?_
    refine am_istore_n' (ls' := [some (.ref 0), some (.int v1), some (.int u0), some (.int (0 : Int32))]) dX5_situationNow_56 rfl rfl rfl ?_
    obtain ⟨n14, hw⟩ := hw
    refine am_forget (ls' := [some (.ref 0), some (.int v1), some (.int u0), some (.int (0 : Int32))]) [true, true, true, true] rfl ?_
    exact slpX5_situationNow_57 (fun a0 mm hq => hX0 a0 mm hq) n14 _ _ _ _ hw
def lpX5_situationNow_2 (K : Int32 → Mu → Prop)  : Nat → Int32 → Mu → Prop
  | 0, _, _ => False
  | n + 1, v1, m0 => (((6 : Int32) ≤ v1 → (vp_in (13 : Int32) 148 ∧ ∀ m2 : Mu, m2 = mu_up m0 32 18 (m0 0 ((13 : Int32)).toNatClampNeg) → wX5_numberOf m2 (fun r3 : Int32 => K r3 m2))) ∧ (¬ (6 : Int32) ≤ v1 → (((m0 32 13) < v1 → jnX5_situationNow_27 K (fun a0 mm => lpX5_situationNow_2 K n a0 mm) v1 (12 : Int32) m0) ∧ (¬ (m0 32 13) < v1 → (vp_in v1 6 ∧ jnX5_situationNow_27 K (fun a0 mm => lpX5_situationNow_2 K n a0 mm) v1 (m0 14 (v1).toNatClampNeg) m0)))))
set_option maxRecDepth 20000 in
theorem slpX5_situationNow_2 {K : Int32 → Mu → Prop} : ∀ (n : Nat) (v1 : Int32) (m0 : Mu), lpX5_situationNow_2 K n v1 m0 → am_Ok mX5_situationNow none (zI fX5 K) 0 0 2 [some (.ref 0), some (.int v1), none, none] [] (fX5 m0) := by
  intro n
  induction n with
  | zero => intro v1 m0 hw; exact False.elim hw
  | succ n ih =>
    intro v1 m0 hw
    unfold lpX5_situationNow_2 at hw
    refine am_iload_n dX5_situationNow_2 rfl ?_
    refine am_bipush dX5_situationNow_3 bc_6 ?_
    refine am_icmp_ge 100 dX5_situationNow_5 (by decide) (fun c1 => ?_) (fun c1 => ?_)
    · have hw := hw.1 c1
      refine am_aload_n dX5_situationNow_100 rfl ?_
      refine am_aload_n dX5_situationNow_101 rfl ?_
      refine am_getf dX5_situationNow_102 fl_X5_7 rfl rfl ?_
      refine am_bipush dX5_situationNow_105 bc_13 ?_
      refine am_iaload dX5_situationNow_107 rfl hw.1 ?_
      have hw := hw.2
      refine am_putf' (F := fX5) (m := mu_up m0 32 18 (m0 0 ((13 : Int32)).toNatClampNeg)) dX5_situationNow_108 fp_X5_155 rfl rfl rfl (fun m2 em2 => ?_)
      have hw := hw m2 em2
      refine am_aload_n dX5_situationNow_111 rfl ?_
      refine am_selfP fam_X5 rfl dX5_situationNow_112 q_X5_situationNow_171 rfl (sX5_numberOf hw) rfl rfl rfl rfl rfl (fun r3 hw => ?_)
      exact am_ireturn dX5_situationNow_115 rfl ⟨_, _, rfl, rfl, hw⟩
    · have hw := hw.2 c1
      refine am_iload_n dX5_situationNow_8 rfl ?_
      refine am_aload_n dX5_situationNow_9 rfl ?_
      refine am_getf dX5_situationNow_10 fl_X5_152 rfl rfl ?_
      refine am_icmp_gt 25 dX5_situationNow_13 (by decide) (fun c4 => ?_) (fun c4 => ?_)
      · have hw := hw.1 c4
        refine am_bipush dX5_situationNow_25 bc_12 ?_
        refine am_forget (ls' := [some (.ref 0), some (.int v1), none, none]) [true, true, false, false] rfl ?_
        exact sjnX5_situationNow_27 (fun a0 mm hq => ih a0 mm hq) hw
      · have hw := hw.2 c4
        refine am_aload_n dX5_situationNow_16 rfl ?_
        refine am_getf dX5_situationNow_17 fl_X5_39 rfl rfl ?_
        refine am_iload_n dX5_situationNow_20 rfl ?_
        refine am_iaload dX5_situationNow_21 rfl hw.1 ?_
        have hw := hw.2
        refine am_goto 27 dX5_situationNow_22 (by decide) ?_
        refine am_forget (ls' := [some (.ref 0), some (.int v1), none, none]) [true, true, false, false] rfl ?_
        exact sjnX5_situationNow_27 (fun a0 mm hq => ih a0 mm hq) hw
def wX5_situationNow (m0 : Mu) (K : Int32 → Mu → Prop) : Prop := (∃ n15 : Nat, lpX5_situationNow_2 K n15 (0 : Int32) m0)
set_option maxRecDepth 20000 in
theorem sX5_situationNow {m0 : Mu} {K : Int32 → Mu → Prop} (hw : wX5_situationNow m0 K) : am_Met mX5_situationNow [.ref 0] (fX5 m0) 0 0 (zI fX5 K) := by
  unfold wX5_situationNow at hw
  refine am_Met.of2 (ls := [some (.ref 0), none, none, none]) pf_X5_situationNow rfl rfl rfl rfl ?_
  refine am_iconst dX5_situationNow_0 ic_0 ?_
  refine am_istore_n' (ls' := [some (.ref 0), some (.int (0 : Int32)), none, none]) dX5_situationNow_1 rfl rfl rfl ?_
  obtain ⟨n15, hw⟩ := hw
  refine am_forget (ls' := [some (.ref 0), some (.int (0 : Int32)), none, none]) [true, true, false, false] rfl ?_
  exact slpX5_situationNow_2  n15 _ _ hw

def lpX5_wrongPlan_36 (K : Int32 → Mu → Prop)  : Nat → Int32 → Int32 → Int32 → Int32 → Mu → Prop
  | 0, _, _, _, _, _ => False
  | n + 1, v1, v2, v3, v4, m0 => (((12 : Int32) ≤ v4 → (vp_in (14 : Int32) 148 ∧ (((3 : Int32) < (m0 0 ((14 : Int32)).toNatClampNeg) → K (-9 : Int32) m0) ∧ (¬ (3 : Int32) < (m0 0 ((14 : Int32)).toNatClampNeg) → ((v3 ≤ (5 : Int32) → wX5_layRows m0 (fun m10 : Mu => (((m10 32 6) = (((12 : Int32) * v1) + v2) → K (0 : Int32) m10) ∧ (¬ (m10 32 6) = (((12 : Int32) * v1) + v2) → wX5_layAll v1 v2 m10 (fun m12 : Mu => ∀ m13 : Mu, m13 = mu_up m12 32 6 (((12 : Int32) * v1) + v2) → K (0 : Int32) m13))))) ∧ (¬ v3 ≤ (5 : Int32) → K (-9 : Int32) m0)))))) ∧ (¬ (12 : Int32) ≤ v4 → wX5_isTrack v4 m0 (fun r14 : Int32 => ((r14 = 0 → ∀ x16 : Int32, x16 = (v3 + (0 : Int32)) → ∀ x17 : Int32, x17 = v4 + (1 : Int32) → lpX5_wrongPlan_36 K n v1 v2 x16 x17 m0) ∧ (¬ r14 = 0 → ∀ x18 : Int32, x18 = (v3 + (1 : Int32)) → ∀ x19 : Int32, x19 = v4 + (1 : Int32) → lpX5_wrongPlan_36 K n v1 v2 x18 x19 m0)))))
set_option maxRecDepth 20000 in
theorem slpX5_wrongPlan_36 {K : Int32 → Mu → Prop} : ∀ (n : Nat) (v1 v2 v3 v4 : Int32) (m0 : Mu), lpX5_wrongPlan_36 K n v1 v2 v3 v4 m0 → am_Ok mX5_wrongPlan none (zI fX5 K) 0 0 36 [some (.ref 0), some (.int v1), some (.int v2), some (.int v3), some (.int v4)] [] (fX5 m0) := by
  intro n
  induction n with
  | zero => intro v1 v2 v3 v4 m0 hw; exact False.elim hw
  | succ n ih =>
    intro v1 v2 v3 v4 m0 hw
    unfold lpX5_wrongPlan_36 at hw
    refine am_iload dX5_wrongPlan_36 rfl ?_
    refine am_bipush dX5_wrongPlan_38 bc_12 ?_
    refine am_icmp_ge 66 dX5_wrongPlan_40 (by decide) (fun c7 => ?_) (fun c7 => ?_)
    · have hw := hw.1 c7
      refine am_aload_n dX5_wrongPlan_66 rfl ?_
      refine am_getf dX5_wrongPlan_67 fl_X5_7 rfl rfl ?_
      refine am_bipush dX5_wrongPlan_70 bc_14 ?_
      refine am_iaload dX5_wrongPlan_72 rfl hw.1 ?_
      have hw := hw.2
      refine am_iconst dX5_wrongPlan_73 ic_3 ?_
      refine am_icmp_gt 82 dX5_wrongPlan_74 (by decide) (fun c8 => ?_) (fun c8 => ?_)
      · have hw := hw.1 c8
        refine am_bipush dX5_wrongPlan_82 bc_m9 ?_
        exact am_ireturn dX5_wrongPlan_84 rfl ⟨_, _, rfl, rfl, hw⟩
      · have hw := hw.2 c8
        refine am_iload_n dX5_wrongPlan_77 rfl ?_
        refine am_iconst dX5_wrongPlan_78 ic_5 ?_
        refine am_icmp_le 85 dX5_wrongPlan_79 (by decide) (fun c9 => ?_) (fun c9 => ?_)
        · have hw := hw.1 c9
          refine am_aload_n dX5_wrongPlan_85 rfl ?_
          refine am_selfU fam_X5 rfl dX5_wrongPlan_86 q_X5_wrongPlan_216 rfl (sX5_layRows hw) rfl rfl rfl rfl rfl (fun m10 hw => ?_)
          refine am_aload_n dX5_wrongPlan_89 rfl ?_
          refine am_getf dX5_wrongPlan_90 fl_X5_23 rfl rfl ?_
          refine am_bipush dX5_wrongPlan_93 bc_12 ?_
          refine am_iload_n dX5_wrongPlan_95 rfl ?_
          refine am_imul dX5_wrongPlan_96 ?_
          refine am_iload_n dX5_wrongPlan_97 rfl ?_
          refine am_iadd dX5_wrongPlan_98 ?_
          refine am_icmp_eq 118 dX5_wrongPlan_99 (by decide) (fun c11 => ?_) (fun c11 => ?_)
          · have hw := hw.1 c11
            refine am_iconst dX5_wrongPlan_118 ic_0 ?_
            exact am_ireturn dX5_wrongPlan_119 rfl ⟨_, _, rfl, rfl, hw⟩
          · have hw := hw.2 c11
            refine am_aload_n dX5_wrongPlan_102 rfl ?_
            refine am_iload_n dX5_wrongPlan_103 rfl ?_
            refine am_iload_n dX5_wrongPlan_104 rfl ?_
            refine am_selfU fam_X5 rfl dX5_wrongPlan_105 q_X5_wrongPlan_219 rfl (sX5_layAll hw) rfl rfl rfl rfl rfl (fun m12 hw => ?_)
            refine am_aload_n dX5_wrongPlan_108 rfl ?_
            refine am_bipush dX5_wrongPlan_109 bc_12 ?_
            refine am_iload_n dX5_wrongPlan_111 rfl ?_
            refine am_imul dX5_wrongPlan_112 ?_
            refine am_iload_n dX5_wrongPlan_113 rfl ?_
            refine am_iadd dX5_wrongPlan_114 ?_
            refine am_putf' (F := fX5) (m := mu_up m12 32 6 (((12 : Int32) * v1) + v2)) dX5_wrongPlan_115 fp_X5_23 rfl rfl rfl (fun m13 em13 => ?_)
            have hw := hw m13 em13
            refine am_iconst dX5_wrongPlan_118 ic_0 ?_
            exact am_ireturn dX5_wrongPlan_119 rfl ⟨_, _, rfl, rfl, hw⟩
        · have hw := hw.2 c9
          refine am_bipush dX5_wrongPlan_82 bc_m9 ?_
          exact am_ireturn dX5_wrongPlan_84 rfl ⟨_, _, rfl, rfl, hw⟩
    · have hw := hw.2 c7
      refine am_iload_n dX5_wrongPlan_43 rfl ?_
      refine am_aload_n dX5_wrongPlan_44 rfl ?_
      refine am_iload dX5_wrongPlan_45 rfl ?_
      refine am_selfP fam_X5 rfl dX5_wrongPlan_47 q_X5_wrongPlan_103 rfl (sX5_isTrack hw) rfl rfl rfl rfl rfl (fun r14 hw => ?_)
      refine am_if_eq 57 dX5_wrongPlan_50 (by decide) (fun c15 => ?_) (fun c15 => ?_)
      · have hw := hw.1 c15
        refine am_iconst dX5_wrongPlan_57 ic_0 ?_
        refine am_iadd dX5_wrongPlan_58 ?_
        refine am_top (fun x16 ex16 => ?_)
        have hw := hw x16 ex16
        refine am_istore_n' (ls' := [some (.ref 0), some (.int v1), some (.int v2), some (.int x16), some (.int v4)]) dX5_wrongPlan_59 rfl rfl rfl ?_
        refine am_iinc' (lf := fun y9 => [some (.ref 0), some (.int v1), some (.int v2), some (.int x16), some (.int y9)]) dX5_wrongPlan_60 rfl rfl rfl ic_1 (fun _ => rfl) (fun x17 ex17 => ?_)
        have hw := hw x17 ex17
        refine am_goto 36 dX5_wrongPlan_63 (by decide) ?_
        refine am_forget (ls' := [some (.ref 0), some (.int v1), some (.int v2), some (.int x16), some (.int x17)]) [true, true, true, true, true] rfl ?_
        exact ih _ _ _ _ _ hw
      · have hw := hw.2 c15
        refine am_iconst dX5_wrongPlan_53 ic_1 ?_
        refine am_goto 58 dX5_wrongPlan_54 (by decide) ?_
        refine am_iadd dX5_wrongPlan_58 ?_
        refine am_top (fun x18 ex18 => ?_)
        have hw := hw x18 ex18
        refine am_istore_n' (ls' := [some (.ref 0), some (.int v1), some (.int v2), some (.int x18), some (.int v4)]) dX5_wrongPlan_59 rfl rfl rfl ?_
        refine am_iinc' (lf := fun y9 => [some (.ref 0), some (.int v1), some (.int v2), some (.int x18), some (.int y9)]) dX5_wrongPlan_60 rfl rfl rfl ic_1 (fun _ => rfl) (fun x19 ex19 => ?_)
        have hw := hw x19 ex19
        refine am_goto 36 dX5_wrongPlan_63 (by decide) ?_
        refine am_forget (ls' := [some (.ref 0), some (.int v1), some (.int v2), some (.int x18), some (.int x19)]) [true, true, true, true, true] rfl ?_
        exact ih _ _ _ _ _ hw
def wX5_wrongPlan (a1 a2 : Int32) (m0 : Mu) (K : Int32 → Mu → Prop) : Prop := wX5_isLocomotive a1 m0 (fun r1 : Int32 => ((r1 = 0 → K (-3 : Int32) m0) ∧ (¬ r1 = 0 → wX5_isPosition a2 (fun r3 : Int32 => ((r3 = 0 → K (-1 : Int32) m0) ∧ (¬ r3 = 0 → wX5_isTrack a2 m0 (fun r5 : Int32 => ((r5 = 0 → K (-2 : Int32) m0) ∧ (¬ r5 = 0 → (∃ n20 : Nat, lpX5_wrongPlan_36 K n20 a1 a2 (0 : Int32) (0 : Int32) m0))))))))))
set_option maxRecDepth 20000 in
theorem sX5_wrongPlan {a1 a2 : Int32} {m0 : Mu} {K : Int32 → Mu → Prop} (hw : wX5_wrongPlan a1 a2 m0 K) : am_Met mX5_wrongPlan [.ref 0, .int a1, .int a2] (fX5 m0) 0 0 (zI fX5 K) := by
  unfold wX5_wrongPlan at hw
  refine am_Met.of2 (ls := [some (.ref 0), some (.int a1), some (.int a2), none, none]) pf_X5_wrongPlan rfl rfl rfl rfl ?_
  refine am_aload_n dX5_wrongPlan_0 rfl ?_
  refine am_iload_n dX5_wrongPlan_1 rfl ?_
  refine am_selfP fam_X5 rfl dX5_wrongPlan_2 q_X5_wrongPlan_116 rfl (sX5_isLocomotive hw) rfl rfl rfl rfl rfl (fun r1 hw => ?_)
  refine am_if_ne 11 dX5_wrongPlan_5 (by decide) (fun c2 => ?_) (fun c2 => ?_)
  · have hw := hw.1 c2
    refine am_bipush dX5_wrongPlan_8 bc_m3 ?_
    exact am_ireturn dX5_wrongPlan_10 rfl ⟨_, _, rfl, rfl, hw⟩
  · have hw := hw.2 c2
    refine am_iload_n dX5_wrongPlan_11 rfl ?_
    refine am_stS dX5_wrongPlan_12 q_X5_wrongPlan_92 (sX5_isPosition hw) rfl rfl rfl rfl (fun r3 hw => ?_)
    refine am_if_ne 20 dX5_wrongPlan_15 (by decide) (fun c4 => ?_) (fun c4 => ?_)
    · have hw := hw.1 c4
      refine am_iconst dX5_wrongPlan_18 ic_m1 ?_
      exact am_ireturn dX5_wrongPlan_19 rfl ⟨_, _, rfl, rfl, hw⟩
    · have hw := hw.2 c4
      refine am_aload_n dX5_wrongPlan_20 rfl ?_
      refine am_iload_n dX5_wrongPlan_21 rfl ?_
      refine am_selfP fam_X5 rfl dX5_wrongPlan_22 q_X5_wrongPlan_103 rfl (sX5_isTrack hw) rfl rfl rfl rfl rfl (fun r5 hw => ?_)
      refine am_if_ne 31 dX5_wrongPlan_25 (by decide) (fun c6 => ?_) (fun c6 => ?_)
      · have hw := hw.1 c6
        refine am_bipush dX5_wrongPlan_28 bc_m2 ?_
        exact am_ireturn dX5_wrongPlan_30 rfl ⟨_, _, rfl, rfl, hw⟩
      · have hw := hw.2 c6
        refine am_iconst dX5_wrongPlan_31 ic_0 ?_
        refine am_istore_n' (ls' := [some (.ref 0), some (.int a1), some (.int a2), some (.int (0 : Int32)), none]) dX5_wrongPlan_32 rfl rfl rfl ?_
        refine am_iconst dX5_wrongPlan_33 ic_0 ?_
        refine am_istore' (ls' := [some (.ref 0), some (.int a1), some (.int a2), some (.int (0 : Int32)), some (.int (0 : Int32))]) dX5_wrongPlan_34 rfl rfl rfl ?_
        obtain ⟨n20, hw⟩ := hw
        refine am_forget (ls' := [some (.ref 0), some (.int a1), some (.int a2), some (.int (0 : Int32)), some (.int (0 : Int32))]) [true, true, true, true, true] rfl ?_
        exact slpX5_wrongPlan_36  n20 _ _ _ _ _ hw

def wX5_fewestTurns (a1 a2 : Int32) (m0 : Mu) (K : Int32 → Mu → Prop) : Prop := wX5_wrongPlan a1 a2 m0 (fun (r1 : Int32) (m2 : Mu) => ((r1 = 0 → wX5_situationNow m2 (fun (r4 : Int32) (m5 : Mu) => (vp_in r4 4032 ∧ (((m5 21 (r4).toNatClampNeg) = 0 → K (-11 : Int32) m5) ∧ (¬ (m5 21 (r4).toNatClampNeg) = 0 → (vp_in r4 4032 ∧ K (m5 19 (r4).toNatClampNeg) m5)))))) ∧ (¬ r1 = 0 → K r1 m2)))
set_option maxRecDepth 20000 in
theorem sX5_fewestTurns {a1 a2 : Int32} {m0 : Mu} {K : Int32 → Mu → Prop} (hw : wX5_fewestTurns a1 a2 m0 K) : am_Met mX5_fewestTurns [.ref 0, .int a1, .int a2] (fX5 m0) 0 0 (zI fX5 K) := by
  unfold wX5_fewestTurns at hw
  refine am_Met.of2 (ls := [some (.ref 0), some (.int a1), some (.int a2), none, none]) pf_X5_fewestTurns rfl rfl rfl rfl ?_
  refine am_aload_n dX5_fewestTurns_0 rfl ?_
  refine am_iload_n dX5_fewestTurns_1 rfl ?_
  refine am_iload_n dX5_fewestTurns_2 rfl ?_
  refine am_selfI fam_X5 rfl dX5_fewestTurns_3 q_X5_fewestTurns_222 rfl (sX5_wrongPlan hw) rfl rfl rfl rfl rfl (fun r1 m2 hw => ?_)
  refine am_istore_n' (ls' := [some (.ref 0), some (.int a1), some (.int a2), some (.int r1), none]) dX5_fewestTurns_6 rfl rfl rfl ?_
  refine am_iload_n dX5_fewestTurns_7 rfl ?_
  refine am_if_eq 13 dX5_fewestTurns_8 (by decide) (fun c3 => ?_) (fun c3 => ?_)
  · have hw := hw.1 c3
    refine am_aload_n dX5_fewestTurns_13 rfl ?_
    refine am_selfI fam_X5 rfl dX5_fewestTurns_14 q_X5_fewestTurns_225 rfl (sX5_situationNow hw) rfl rfl rfl rfl rfl (fun r4 m5 hw => ?_)
    refine am_istore' (ls' := [some (.ref 0), some (.int a1), some (.int a2), some (.int r1), some (.int r4)]) dX5_fewestTurns_17 rfl rfl rfl ?_
    refine am_aload_n dX5_fewestTurns_19 rfl ?_
    refine am_getf dX5_fewestTurns_20 fl_X5_57 rfl rfl ?_
    refine am_iload dX5_fewestTurns_23 rfl ?_
    refine am_baload dX5_fewestTurns_25 rfl hw.1 ?_
    have hw := hw.2
    refine am_if_eq 39 dX5_fewestTurns_26 (by decide) (fun c6 => ?_) (fun c6 => ?_)
    · have hw := hw.1 c6
      refine am_bipush dX5_fewestTurns_39 bc_m11 ?_
      exact am_ireturn dX5_fewestTurns_41 rfl ⟨_, _, rfl, rfl, hw⟩
    · have hw := hw.2 c6
      refine am_aload_n dX5_fewestTurns_29 rfl ?_
      refine am_getf dX5_fewestTurns_30 fl_X5_51 rfl rfl ?_
      refine am_iload dX5_fewestTurns_33 rfl ?_
      refine am_iaload dX5_fewestTurns_35 rfl hw.1 ?_
      have hw := hw.2
      refine am_goto 41 dX5_fewestTurns_36 (by decide) ?_
      exact am_ireturn dX5_fewestTurns_41 rfl ⟨_, _, rfl, rfl, hw⟩
  · have hw := hw.2 c3
    refine am_iload_n dX5_fewestTurns_11 rfl ?_
    exact am_ireturn dX5_fewestTurns_12 rfl ⟨_, _, rfl, rfl, hw⟩

def jnX5_bestAction_110 (K : Int32 → Mu → Prop) (X0 : Int32 → Int32 → Mu → Prop) (v1 v2 u0 u1 u2 : Int32) (m0 : Mu) : Prop := ((u2 = (u1 - u0) → (((1 : Int32) = 0 → ∀ x14 : Int32, x14 = v2 + (1 : Int32) → X0 v1 x14 m0) ∧ (¬ (1 : Int32) = 0 → K v2 m0))) ∧ (¬ u2 = (u1 - u0) → (((0 : Int32) = 0 → ∀ x16 : Int32, x16 = v2 + (1 : Int32) → X0 v1 x16 m0) ∧ (¬ (0 : Int32) = 0 → K v2 m0))))
set_option maxRecDepth 20000 in
theorem sjnX5_bestAction_110 {m0 : Mu} {K : Int32 → Mu → Prop} {X0 : Int32 → Int32 → Mu → Prop} (hX0 : ∀ (a0 a1 : Int32) (mm : Mu), X0 a0 a1 mm → am_Ok mX5_bestAction none (zI fX5 K) 0 0 2 [some (.ref 0), some (.int a0), some (.int a1), none, none, none] [] (fX5 mm)) {v1 v2 u0 u1 u2 : Int32} (hw : jnX5_bestAction_110 K X0 v1 v2 u0 u1 u2 m0) : am_Ok mX5_bestAction none (zI fX5 K) 0 0 110 [some (.ref 0), some (.int v1), some (.int v2), none, none, none] [.int u0, .int u1, .int u2] (fX5 m0) := by
  unfold jnX5_bestAction_110 at hw
  refine am_isub dX5_bestAction_110 ?_
  refine am_icmp_ne 118 dX5_bestAction_111 (by decide) (fun c12 => ?_) (fun c12 => ?_)
  · have hw := hw.1 c12
    refine am_iconst dX5_bestAction_114 ic_1 ?_
    refine am_goto 119 dX5_bestAction_115 (by decide) ?_
    refine am_istore' (ls' := [some (.ref 0), some (.int v1), some (.int v2), none, none, some (.int (1 : Int32))]) dX5_bestAction_119 rfl rfl rfl ?_
    refine am_iload dX5_bestAction_121 rfl ?_
    refine am_if_eq 128 dX5_bestAction_123 (by decide) (fun c13 => ?_) (fun c13 => ?_)
    · have hw := hw.1 c13
      refine am_iinc' (lf := fun y9 => [some (.ref 0), some (.int v1), some (.int y9), none, none, some (.int (1 : Int32))]) dX5_bestAction_128 rfl rfl rfl ic_1 (fun _ => rfl) (fun x14 ex14 => ?_)
      have hw := hw x14 ex14
      refine am_goto 2 dX5_bestAction_131 (by decide) ?_
      refine am_forget (ls' := [some (.ref 0), some (.int v1), some (.int x14), none, none, none]) [true, true, true, false, false, false] rfl ?_
      exact hX0 _ _ _ hw
    · have hw := hw.2 c13
      refine am_iload_n dX5_bestAction_126 rfl ?_
      exact am_ireturn dX5_bestAction_127 rfl ⟨_, _, rfl, rfl, hw⟩
  · have hw := hw.2 c12
    refine am_iconst dX5_bestAction_118 ic_0 ?_
    refine am_istore' (ls' := [some (.ref 0), some (.int v1), some (.int v2), none, none, some (.int (0 : Int32))]) dX5_bestAction_119 rfl rfl rfl ?_
    refine am_iload dX5_bestAction_121 rfl ?_
    refine am_if_eq 128 dX5_bestAction_123 (by decide) (fun c15 => ?_) (fun c15 => ?_)
    · have hw := hw.1 c15
      refine am_iinc' (lf := fun y9 => [some (.ref 0), some (.int v1), some (.int y9), none, none, some (.int (0 : Int32))]) dX5_bestAction_128 rfl rfl rfl ic_1 (fun _ => rfl) (fun x16 ex16 => ?_)
      have hw := hw x16 ex16
      refine am_goto 2 dX5_bestAction_131 (by decide) ?_
      refine am_forget (ls' := [some (.ref 0), some (.int v1), some (.int x16), none, none, none]) [true, true, true, false, false, false] rfl ?_
      exact hX0 _ _ _ hw
    · have hw := hw.2 c15
      refine am_iload_n dX5_bestAction_126 rfl ?_
      exact am_ireturn dX5_bestAction_127 rfl ⟨_, _, rfl, rfl, hw⟩
def jnX5_bestAction_52 (K : Int32 → Mu → Prop) (X0 : Int32 → Int32 → Mu → Prop) (v1 v2 u0 : Int32) (m0 : Mu) : Prop := ((u0 < 0 → (((0 : Int32) = 0 → ∀ x6 : Int32, x6 = v2 + (1 : Int32) → X0 v1 x6 m0) ∧ (¬ (0 : Int32) = 0 → K v2 m0))) ∧ (¬ u0 < 0 → (vp_in u0 4032 ∧ (((m0 21 (u0).toNatClampNeg) = 0 → (((0 : Int32) = 0 → ∀ x9 : Int32, x9 = v2 + (1 : Int32) → X0 v1 x9 m0) ∧ (¬ (0 : Int32) = 0 → K v2 m0))) ∧ (¬ (m0 21 (u0).toNatClampNeg) = 0 → (vp_in u0 4032 ∧ (vp_in v1 4032 ∧ (((m0 20 (u0).toNatClampNeg) = ((m0 20 (v1).toNatClampNeg) - (1 : Int32)) → (vp_in u0 4032 ∧ (vp_in v1 4032 ∧ (((2 : Int32) ≤ v2 → jnX5_bestAction_110 K (fun a0 a1 mm => X0 a0 a1 mm) v1 v2 (0 : Int32) (m0 19 (v1).toNatClampNeg) (m0 19 (u0).toNatClampNeg) m0) ∧ (¬ (2 : Int32) ≤ v2 → jnX5_bestAction_110 K (fun a0 a1 mm => X0 a0 a1 mm) v1 v2 (1 : Int32) (m0 19 (v1).toNatClampNeg) (m0 19 (u0).toNatClampNeg) m0))))) ∧ (¬ (m0 20 (u0).toNatClampNeg) = ((m0 20 (v1).toNatClampNeg) - (1 : Int32)) → (((0 : Int32) = 0 → ∀ x18 : Int32, x18 = v2 + (1 : Int32) → X0 v1 x18 m0) ∧ (¬ (0 : Int32) = 0 → K v2 m0)))))))))))
set_option maxRecDepth 20000 in
theorem sjnX5_bestAction_52 {m0 : Mu} {K : Int32 → Mu → Prop} {X0 : Int32 → Int32 → Mu → Prop} (hX0 : ∀ (a0 a1 : Int32) (mm : Mu), X0 a0 a1 mm → am_Ok mX5_bestAction none (zI fX5 K) 0 0 2 [some (.ref 0), some (.int a0), some (.int a1), none, none, none] [] (fX5 mm)) {v1 v2 u0 : Int32} (hw : jnX5_bestAction_52 K X0 v1 v2 u0 m0) : am_Ok mX5_bestAction none (zI fX5 K) 0 0 52 [some (.ref 0), some (.int v1), some (.int v2), none, none, none] [.int u0] (fX5 m0) := by
  unfold jnX5_bestAction_52 at hw
  refine am_istore' (ls' := [some (.ref 0), some (.int v1), some (.int v2), none, some (.int u0), none]) dX5_bestAction_52 rfl rfl rfl ?_
  refine am_iload dX5_bestAction_54 rfl ?_
  refine am_if_lt 118 dX5_bestAction_56 (by decide) (fun c4 => ?_) (fun c4 => ?_)
  · have hw := hw.1 c4
    refine am_iconst dX5_bestAction_118 ic_0 ?_
    refine am_istore' (ls' := [some (.ref 0), some (.int v1), some (.int v2), none, some (.int u0), some (.int (0 : Int32))]) dX5_bestAction_119 rfl rfl rfl ?_
    refine am_iload dX5_bestAction_121 rfl ?_
    refine am_if_eq 128 dX5_bestAction_123 (by decide) (fun c5 => ?_) (fun c5 => ?_)
    · have hw := hw.1 c5
      refine am_iinc' (lf := fun y9 => [some (.ref 0), some (.int v1), some (.int y9), none, some (.int u0), some (.int (0 : Int32))]) dX5_bestAction_128 rfl rfl rfl ic_1 (fun _ => rfl) (fun x6 ex6 => ?_)
      have hw := hw x6 ex6
      refine am_goto 2 dX5_bestAction_131 (by decide) ?_
      refine am_forget (ls' := [some (.ref 0), some (.int v1), some (.int x6), none, none, none]) [true, true, true, false, false, false] rfl ?_
      exact hX0 _ _ _ hw
    · have hw := hw.2 c5
      refine am_iload_n dX5_bestAction_126 rfl ?_
      exact am_ireturn dX5_bestAction_127 rfl ⟨_, _, rfl, rfl, hw⟩
  · have hw := hw.2 c4
    refine am_aload_n dX5_bestAction_59 rfl ?_
    refine am_getf dX5_bestAction_60 fl_X5_57 rfl rfl ?_
    refine am_iload dX5_bestAction_63 rfl ?_
    refine am_baload dX5_bestAction_65 rfl hw.1 ?_
    have hw := hw.2
    refine am_if_eq 118 dX5_bestAction_66 (by decide) (fun c7 => ?_) (fun c7 => ?_)
    · have hw := hw.1 c7
      refine am_iconst dX5_bestAction_118 ic_0 ?_
      refine am_istore' (ls' := [some (.ref 0), some (.int v1), some (.int v2), none, some (.int u0), some (.int (0 : Int32))]) dX5_bestAction_119 rfl rfl rfl ?_
      refine am_iload dX5_bestAction_121 rfl ?_
      refine am_if_eq 128 dX5_bestAction_123 (by decide) (fun c8 => ?_) (fun c8 => ?_)
      · have hw := hw.1 c8
        refine am_iinc' (lf := fun y9 => [some (.ref 0), some (.int v1), some (.int y9), none, some (.int u0), some (.int (0 : Int32))]) dX5_bestAction_128 rfl rfl rfl ic_1 (fun _ => rfl) (fun x9 ex9 => ?_)
        have hw := hw x9 ex9
        refine am_goto 2 dX5_bestAction_131 (by decide) ?_
        refine am_forget (ls' := [some (.ref 0), some (.int v1), some (.int x9), none, none, none]) [true, true, true, false, false, false] rfl ?_
        exact hX0 _ _ _ hw
      · have hw := hw.2 c8
        refine am_iload_n dX5_bestAction_126 rfl ?_
        exact am_ireturn dX5_bestAction_127 rfl ⟨_, _, rfl, rfl, hw⟩
    · have hw := hw.2 c7
      refine am_aload_n dX5_bestAction_69 rfl ?_
      refine am_getf dX5_bestAction_70 fl_X5_54 rfl rfl ?_
      refine am_iload dX5_bestAction_73 rfl ?_
      refine am_iaload dX5_bestAction_75 rfl hw.1 ?_
      have hw := hw.2
      refine am_aload_n dX5_bestAction_76 rfl ?_
      refine am_getf dX5_bestAction_77 fl_X5_54 rfl rfl ?_
      refine am_iload_n dX5_bestAction_80 rfl ?_
      refine am_iaload dX5_bestAction_81 rfl hw.1 ?_
      have hw := hw.2
      refine am_iconst dX5_bestAction_82 ic_1 ?_
      refine am_isub dX5_bestAction_83 ?_
      refine am_icmp_ne 118 dX5_bestAction_84 (by decide) (fun c10 => ?_) (fun c10 => ?_)
      · have hw := hw.1 c10
        refine am_aload_n dX5_bestAction_87 rfl ?_
        refine am_getf dX5_bestAction_88 fl_X5_51 rfl rfl ?_
        refine am_iload dX5_bestAction_91 rfl ?_
        refine am_iaload dX5_bestAction_93 rfl hw.1 ?_
        have hw := hw.2
        refine am_aload_n dX5_bestAction_94 rfl ?_
        refine am_getf dX5_bestAction_95 fl_X5_51 rfl rfl ?_
        refine am_iload_n dX5_bestAction_98 rfl ?_
        refine am_iaload dX5_bestAction_99 rfl hw.1 ?_
        have hw := hw.2
        refine am_iload_n dX5_bestAction_100 rfl ?_
        refine am_iconst dX5_bestAction_101 ic_2 ?_
        refine am_icmp_ge 109 dX5_bestAction_102 (by decide) (fun c11 => ?_) (fun c11 => ?_)
        · have hw := hw.1 c11
          refine am_iconst dX5_bestAction_109 ic_0 ?_
          refine am_forget (ls' := [some (.ref 0), some (.int v1), some (.int v2), none, none, none]) [true, true, true, false, false, false] rfl ?_
          exact sjnX5_bestAction_110 (fun a0 a1 mm hq => hX0 a0 a1 mm hq) hw
        · have hw := hw.2 c11
          refine am_iconst dX5_bestAction_105 ic_1 ?_
          refine am_goto 110 dX5_bestAction_106 (by decide) ?_
          refine am_forget (ls' := [some (.ref 0), some (.int v1), some (.int v2), none, none, none]) [true, true, true, false, false, false] rfl ?_
          exact sjnX5_bestAction_110 (fun a0 a1 mm hq => hX0 a0 a1 mm hq) hw
      · have hw := hw.2 c10
        refine am_iconst dX5_bestAction_118 ic_0 ?_
        refine am_istore' (ls' := [some (.ref 0), some (.int v1), some (.int v2), none, some (.int u0), some (.int (0 : Int32))]) dX5_bestAction_119 rfl rfl rfl ?_
        refine am_iload dX5_bestAction_121 rfl ?_
        refine am_if_eq 128 dX5_bestAction_123 (by decide) (fun c17 => ?_) (fun c17 => ?_)
        · have hw := hw.1 c17
          refine am_iinc' (lf := fun y9 => [some (.ref 0), some (.int v1), some (.int y9), none, some (.int u0), some (.int (0 : Int32))]) dX5_bestAction_128 rfl rfl rfl ic_1 (fun _ => rfl) (fun x18 ex18 => ?_)
          have hw := hw x18 ex18
          refine am_goto 2 dX5_bestAction_131 (by decide) ?_
          refine am_forget (ls' := [some (.ref 0), some (.int v1), some (.int x18), none, none, none]) [true, true, true, false, false, false] rfl ?_
          exact hX0 _ _ _ hw
        · have hw := hw.2 c17
          refine am_iload_n dX5_bestAction_126 rfl ?_
          exact am_ireturn dX5_bestAction_127 rfl ⟨_, _, rfl, rfl, hw⟩
def jnX5_bestAction_36 (K : Int32 → Mu → Prop) (X0 : Int32 → Int32 → Mu → Prop) (v1 v2 u0 : Int32) (m0 : Mu) : Prop := ((u0 = 0 → jnX5_bestAction_52 K (fun a0 a1 mm => X0 a0 a1 mm) v1 v2 (-11 : Int32) m0) ∧ (¬ u0 = 0 → wX5_behind v1 v2 m0 (fun (r19 : Int32) (m20 : Mu) => jnX5_bestAction_52 K (fun a0 a1 mm => X0 a0 a1 mm) v1 v2 r19 m20)))
set_option maxRecDepth 20000 in
theorem sjnX5_bestAction_36 {m0 : Mu} {K : Int32 → Mu → Prop} {X0 : Int32 → Int32 → Mu → Prop} (hX0 : ∀ (a0 a1 : Int32) (mm : Mu), X0 a0 a1 mm → am_Ok mX5_bestAction none (zI fX5 K) 0 0 2 [some (.ref 0), some (.int a0), some (.int a1), none, none, none] [] (fX5 mm)) {v1 v2 u0 : Int32} (hw : jnX5_bestAction_36 K X0 v1 v2 u0 m0) : am_Ok mX5_bestAction none (zI fX5 K) 0 0 36 [some (.ref 0), some (.int v1), some (.int v2), none, none, none] [.int u0] (fX5 m0) := by
  unfold jnX5_bestAction_36 at hw
  refine am_istore_n' (ls' := [some (.ref 0), some (.int v1), some (.int v2), some (.int u0), none, none]) dX5_bestAction_36 rfl rfl rfl ?_
  refine am_iload_n dX5_bestAction_37 rfl ?_
  refine am_if_eq 50 dX5_bestAction_38 (by decide) (fun c3 => ?_) (fun c3 => ?_)
  · have hw := hw.1 c3
    refine am_bipush dX5_bestAction_50 bc_m11 ?_
    refine am_forget (ls' := [some (.ref 0), some (.int v1), some (.int v2), none, none, none]) [true, true, true, false, false, false] rfl ?_
    exact sjnX5_bestAction_52 (fun a0 a1 mm hq => hX0 a0 a1 mm hq) hw
  · have hw := hw.2 c3
    refine am_aload_n dX5_bestAction_41 rfl ?_
    refine am_iload_n dX5_bestAction_42 rfl ?_
    refine am_iload_n dX5_bestAction_43 rfl ?_
    refine am_selfI fam_X5 rfl dX5_bestAction_44 q_X5_bestAction_184 rfl (sX5_behind hw) rfl rfl rfl rfl rfl (fun r19 m20 hw => ?_)
    refine am_goto 52 dX5_bestAction_47 (by decide) ?_
    refine am_forget (ls' := [some (.ref 0), some (.int v1), some (.int v2), none, none, none]) [true, true, true, false, false, false] rfl ?_
    exact sjnX5_bestAction_52 (fun a0 a1 mm hq => hX0 a0 a1 mm hq) hw
def jnX5_bestAction_31 (K : Int32 → Mu → Prop) (X0 : Int32 → Int32 → Mu → Prop) (v1 v2 : Int32) (m0 : Mu) : Prop := jnX5_bestAction_36 K (fun a0 a1 mm => X0 a0 a1 mm) v1 v2 (1 : Int32) m0
set_option maxRecDepth 20000 in
theorem sjnX5_bestAction_31 {m0 : Mu} {K : Int32 → Mu → Prop} {X0 : Int32 → Int32 → Mu → Prop} (hX0 : ∀ (a0 a1 : Int32) (mm : Mu), X0 a0 a1 mm → am_Ok mX5_bestAction none (zI fX5 K) 0 0 2 [some (.ref 0), some (.int a0), some (.int a1), none, none, none] [] (fX5 mm)) {v1 v2 : Int32} (hw : jnX5_bestAction_31 K X0 v1 v2 m0) : am_Ok mX5_bestAction none (zI fX5 K) 0 0 31 [some (.ref 0), some (.int v1), some (.int v2), none, none, none] [] (fX5 m0) := by
  unfold jnX5_bestAction_31 at hw
  refine am_iconst dX5_bestAction_31 ic_1 ?_
  refine am_goto 36 dX5_bestAction_32 (by decide) ?_
  refine am_forget (ls' := [some (.ref 0), some (.int v1), some (.int v2), none, none, none]) [true, true, true, false, false, false] rfl ?_
  exact sjnX5_bestAction_36 (fun a0 a1 mm hq => hX0 a0 a1 mm hq) hw
def jnX5_bestAction_35 (K : Int32 → Mu → Prop) (X0 : Int32 → Int32 → Mu → Prop) (v1 v2 : Int32) (m0 : Mu) : Prop := jnX5_bestAction_36 K (fun a0 a1 mm => X0 a0 a1 mm) v1 v2 (0 : Int32) m0
set_option maxRecDepth 20000 in
theorem sjnX5_bestAction_35 {m0 : Mu} {K : Int32 → Mu → Prop} {X0 : Int32 → Int32 → Mu → Prop} (hX0 : ∀ (a0 a1 : Int32) (mm : Mu), X0 a0 a1 mm → am_Ok mX5_bestAction none (zI fX5 K) 0 0 2 [some (.ref 0), some (.int a0), some (.int a1), none, none, none] [] (fX5 mm)) {v1 v2 : Int32} (hw : jnX5_bestAction_35 K X0 v1 v2 m0) : am_Ok mX5_bestAction none (zI fX5 K) 0 0 35 [some (.ref 0), some (.int v1), some (.int v2), none, none, none] [] (fX5 m0) := by
  unfold jnX5_bestAction_35 at hw
  refine am_iconst dX5_bestAction_35 ic_0 ?_
  refine am_forget (ls' := [some (.ref 0), some (.int v1), some (.int v2), none, none, none]) [true, true, true, false, false, false] rfl ?_
  exact sjnX5_bestAction_36 (fun a0 a1 mm hq => hX0 a0 a1 mm hq) hw
def lpX5_bestAction_2 (K : Int32 → Mu → Prop)  : Nat → Int32 → Int32 → Mu → Prop
  | 0, _, _, _ => False
  | n + 1, v1, v2, m0 => (((45 : Int32) ≤ v2 → K (-11 : Int32) m0) ∧ (¬ (45 : Int32) ≤ v2 → ((v2 < (2 : Int32) → jnX5_bestAction_31 K (fun a0 a1 mm => lpX5_bestAction_2 K n a0 a1 mm) v1 v2 m0) ∧ (¬ v2 < (2 : Int32) → wX5_in (am_rem v2 (10 : Int32)) (1 : Int32) (3 : Int32) (fun r21 : Int32 => ((r21 = 0 → jnX5_bestAction_35 K (fun a0 a1 mm => lpX5_bestAction_2 K n a0 a1 mm) v1 v2 m0) ∧ (¬ r21 = 0 → ((v2 ≤ (10 : Int32) → jnX5_bestAction_35 K (fun a0 a1 mm => lpX5_bestAction_2 K n a0 a1 mm) v1 v2 m0) ∧ (¬ v2 ≤ (10 : Int32) → jnX5_bestAction_31 K (fun a0 a1 mm => lpX5_bestAction_2 K n a0 a1 mm) v1 v2 m0)))))))))
set_option maxRecDepth 20000 in
theorem slpX5_bestAction_2 {K : Int32 → Mu → Prop} : ∀ (n : Nat) (v1 v2 : Int32) (m0 : Mu), lpX5_bestAction_2 K n v1 v2 m0 → am_Ok mX5_bestAction none (zI fX5 K) 0 0 2 [some (.ref 0), some (.int v1), some (.int v2), none, none, none] [] (fX5 m0) := by
  intro n
  induction n with
  | zero => intro v1 v2 m0 hw; exact False.elim hw
  | succ n ih =>
    intro v1 v2 m0 hw
    unfold lpX5_bestAction_2 at hw
    refine am_iload_n dX5_bestAction_2 rfl ?_
    refine am_bipush dX5_bestAction_3 bc_45 ?_
    refine am_icmp_ge 134 dX5_bestAction_5 (by decide) (fun c1 => ?_) (fun c1 => ?_)
    · have hw := hw.1 c1
      refine am_bipush dX5_bestAction_134 bc_m11 ?_
      exact am_ireturn dX5_bestAction_136 rfl ⟨_, _, rfl, rfl, hw⟩
    · have hw := hw.2 c1
      refine am_iload_n dX5_bestAction_8 rfl ?_
      refine am_iconst dX5_bestAction_9 ic_2 ?_
      refine am_icmp_lt 31 dX5_bestAction_10 (by decide) (fun c2 => ?_) (fun c2 => ?_)
      · have hw := hw.1 c2
        refine am_forget (ls' := [some (.ref 0), some (.int v1), some (.int v2), none, none, none]) [true, true, true, false, false, false] rfl ?_
        exact sjnX5_bestAction_31 (fun a0 a1 mm hq => ih a0 a1 mm hq) hw
      · have hw := hw.2 c2
        refine am_iload_n dX5_bestAction_13 rfl ?_
        refine am_bipush dX5_bestAction_14 bc_10 ?_
        refine am_irem' dX5_bestAction_16 nz_10 ?_
        refine am_iconst dX5_bestAction_17 ic_1 ?_
        refine am_iconst dX5_bestAction_18 ic_3 ?_
        refine am_stS dX5_bestAction_19 q_X5_bestAction_84 (sX5_in hw) rfl rfl rfl rfl (fun r21 hw => ?_)
        refine am_if_eq 35 dX5_bestAction_22 (by decide) (fun c22 => ?_) (fun c22 => ?_)
        · have hw := hw.1 c22
          refine am_forget (ls' := [some (.ref 0), some (.int v1), some (.int v2), none, none, none]) [true, true, true, false, false, false] rfl ?_
          exact sjnX5_bestAction_35 (fun a0 a1 mm hq => ih a0 a1 mm hq) hw
        · have hw := hw.2 c22
          refine am_iload_n dX5_bestAction_25 rfl ?_
          refine am_bipush dX5_bestAction_26 bc_10 ?_
          refine am_icmp_le 35 dX5_bestAction_28 (by decide) (fun c23 => ?_) (fun c23 => ?_)
          · have hw := hw.1 c23
            refine am_forget (ls' := [some (.ref 0), some (.int v1), some (.int v2), none, none, none]) [true, true, true, false, false, false] rfl ?_
            exact sjnX5_bestAction_35 (fun a0 a1 mm hq => ih a0 a1 mm hq) hw
          · have hw := hw.2 c23
            refine am_forget (ls' := [some (.ref 0), some (.int v1), some (.int v2), none, none, none]) [true, true, true, false, false, false] rfl ?_
            exact sjnX5_bestAction_31 (fun a0 a1 mm hq => ih a0 a1 mm hq) hw
def wX5_bestAction (a1 : Int32) (m0 : Mu) (K : Int32 → Mu → Prop) : Prop := (∃ n24 : Nat, lpX5_bestAction_2 K n24 a1 (0 : Int32) m0)
set_option maxRecDepth 20000 in
theorem sX5_bestAction {a1 : Int32} {m0 : Mu} {K : Int32 → Mu → Prop} (hw : wX5_bestAction a1 m0 K) : am_Met mX5_bestAction [.ref 0, .int a1] (fX5 m0) 0 0 (zI fX5 K) := by
  unfold wX5_bestAction at hw
  refine am_Met.of2 (ls := [some (.ref 0), some (.int a1), none, none, none, none]) pf_X5_bestAction rfl rfl rfl rfl ?_
  refine am_iconst dX5_bestAction_0 ic_0 ?_
  refine am_istore_n' (ls' := [some (.ref 0), some (.int a1), some (.int (0 : Int32)), none, none, none]) dX5_bestAction_1 rfl rfl rfl ?_
  obtain ⟨n24, hw⟩ := hw
  refine am_forget (ls' := [some (.ref 0), some (.int a1), some (.int (0 : Int32)), none, none, none]) [true, true, true, false, false, false] rfl ?_
  exact slpX5_bestAction_2  n24 _ _ _ hw

def lpX5_plan_79 (K : Int32 → Mu → Prop)  : Nat → Int32 → Int32 → Int32 → Int32 → Mu → Prop
  | 0, _, _, _, _, _ => False
  | n + 1, v3, v5, v6, v7, m0 => ((v3 ≤ v7 → K v6 m0) ∧ (¬ v3 ≤ v7 → wX5_behind v5 v6 m0 (fun (r13 : Int32) (m14 : Mu) => wX5_bestAction r13 m14 (fun (r15 : Int32) (m16 : Mu) => ∀ x17 : Int32, x17 = v7 + (1 : Int32) → lpX5_plan_79 K n v3 r13 r15 x17 m16))))
set_option maxRecDepth 20000 in
theorem slpX5_plan_79 {K : Int32 → Mu → Prop} : ∀ (n : Nat) (v3 v5 v6 v7 : Int32) (m0 : Mu), lpX5_plan_79 K n v3 v5 v6 v7 m0 → am_Ok mX5_plan none (zI fX5 K) 0 0 79 [some (.ref 0), none, none, some (.int v3), none, some (.int v5), some (.int v6), some (.int v7)] [] (fX5 m0) := by
  intro n
  induction n with
  | zero => intro v3 v5 v6 v7 m0 hw; exact False.elim hw
  | succ n ih =>
    intro v3 v5 v6 v7 m0 hw
    unfold lpX5_plan_79 at hw
    refine am_iload dX5_plan_79 rfl ?_
    refine am_iload_n dX5_plan_81 rfl ?_
    refine am_icmp_ge 109 dX5_plan_82 (by decide) (fun c12 => ?_) (fun c12 => ?_)
    · have hw := hw.1 c12
      refine am_iload dX5_plan_109 rfl ?_
      exact am_ireturn dX5_plan_111 rfl ⟨_, _, rfl, rfl, hw⟩
    · have hw := hw.2 c12
      refine am_aload_n dX5_plan_85 rfl ?_
      refine am_iload dX5_plan_86 rfl ?_
      refine am_iload dX5_plan_88 rfl ?_
      refine am_selfI fam_X5 rfl dX5_plan_90 q_X5_plan_184 rfl (sX5_behind hw) rfl rfl rfl rfl rfl (fun r13 m14 hw => ?_)
      refine am_istore' (ls' := [some (.ref 0), none, none, some (.int v3), none, some (.int r13), some (.int v6), some (.int v7)]) dX5_plan_93 rfl rfl rfl ?_
      refine am_aload_n dX5_plan_95 rfl ?_
      refine am_iload dX5_plan_96 rfl ?_
      refine am_selfI fam_X5 rfl dX5_plan_98 q_X5_plan_228 rfl (sX5_bestAction hw) rfl rfl rfl rfl rfl (fun r15 m16 hw => ?_)
      refine am_istore' (ls' := [some (.ref 0), none, none, some (.int v3), none, some (.int r13), some (.int r15), some (.int v7)]) dX5_plan_101 rfl rfl rfl ?_
      refine am_iinc' (lf := fun y9 => [some (.ref 0), none, none, some (.int v3), none, some (.int r13), some (.int r15), some (.int y9)]) dX5_plan_103 rfl rfl rfl ic_1 (fun _ => rfl) (fun x17 ex17 => ?_)
      have hw := hw x17 ex17
      refine am_goto 79 dX5_plan_106 (by decide) ?_
      refine am_forget (ls' := [some (.ref 0), none, none, some (.int v3), none, some (.int r13), some (.int r15), some (.int x17)]) [true, false, false, true, false, true, true, true] rfl ?_
      exact ih _ _ _ _ _ hw
def wX5_plan (a1 a2 a3 : Int32) (m0 : Mu) (K : Int32 → Mu → Prop) : Prop := wX5_wrongPlan a1 a2 m0 (fun (r1 : Int32) (m2 : Mu) => ((r1 = 0 → wX5_situationNow m2 (fun (r4 : Int32) (m5 : Mu) => (vp_in r4 4032 ∧ (((m5 21 (r4).toNatClampNeg) = 0 → K (-11 : Int32) m5) ∧ (¬ (m5 21 (r4).toNatClampNeg) = 0 → ((a3 = (-1 : Int32) → (vp_in r4 4032 ∧ K (m5 20 (r4).toNatClampNeg) m5)) ∧ (¬ a3 = (-1 : Int32) → (vp_in r4 4032 ∧ wX5_in a3 (0 : Int32) ((m5 20 (r4).toNatClampNeg) - (1 : Int32)) (fun r8 : Int32 => ((r8 = 0 → K (-11 : Int32) m5) ∧ (¬ r8 = 0 → wX5_bestAction r4 m5 (fun (r10 : Int32) (m11 : Mu) => (∃ n18 : Nat, lpX5_plan_79 K n18 a3 r4 r10 (0 : Int32) m11))))))))))))) ∧ (¬ r1 = 0 → K r1 m2)))
set_option maxRecDepth 20000 in
theorem sX5_plan {a1 a2 a3 : Int32} {m0 : Mu} {K : Int32 → Mu → Prop} (hw : wX5_plan a1 a2 a3 m0 K) : am_Met mX5_plan [.ref 0, .int a1, .int a2, .int a3] (fX5 m0) 0 0 (zI fX5 K) := by
  unfold wX5_plan at hw
  refine am_Met.of2 (ls := [some (.ref 0), some (.int a1), some (.int a2), some (.int a3), none, none, none, none]) pf_X5_plan rfl rfl rfl rfl ?_
  refine am_aload_n dX5_plan_0 rfl ?_
  refine am_iload_n dX5_plan_1 rfl ?_
  refine am_iload_n dX5_plan_2 rfl ?_
  refine am_selfI fam_X5 rfl dX5_plan_3 q_X5_plan_222 rfl (sX5_wrongPlan hw) rfl rfl rfl rfl rfl (fun r1 m2 hw => ?_)
  refine am_istore' (ls' := [some (.ref 0), some (.int a1), some (.int a2), some (.int a3), some (.int r1), none, none, none]) dX5_plan_6 rfl rfl rfl ?_
  refine am_iload dX5_plan_8 rfl ?_
  refine am_if_eq 16 dX5_plan_10 (by decide) (fun c3 => ?_) (fun c3 => ?_)
  · have hw := hw.1 c3
    refine am_aload_n dX5_plan_16 rfl ?_
    refine am_selfI fam_X5 rfl dX5_plan_17 q_X5_plan_225 rfl (sX5_situationNow hw) rfl rfl rfl rfl rfl (fun r4 m5 hw => ?_)
    refine am_istore' (ls' := [some (.ref 0), some (.int a1), some (.int a2), some (.int a3), some (.int r1), some (.int r4), none, none]) dX5_plan_20 rfl rfl rfl ?_
    refine am_aload_n dX5_plan_22 rfl ?_
    refine am_getf dX5_plan_23 fl_X5_57 rfl rfl ?_
    refine am_iload dX5_plan_26 rfl ?_
    refine am_baload dX5_plan_28 rfl hw.1 ?_
    have hw := hw.2
    refine am_if_ne 35 dX5_plan_29 (by decide) (fun c6 => ?_) (fun c6 => ?_)
    · have hw := hw.1 c6
      refine am_bipush dX5_plan_32 bc_m11 ?_
      exact am_ireturn dX5_plan_34 rfl ⟨_, _, rfl, rfl, hw⟩
    · have hw := hw.2 c6
      refine am_iload_n dX5_plan_35 rfl ?_
      refine am_iconst dX5_plan_36 ic_m1 ?_
      refine am_icmp_ne 48 dX5_plan_37 (by decide) (fun c7 => ?_) (fun c7 => ?_)
      · have hw := hw.1 c7
        refine am_aload_n dX5_plan_40 rfl ?_
        refine am_getf dX5_plan_41 fl_X5_54 rfl rfl ?_
        refine am_iload dX5_plan_44 rfl ?_
        refine am_iaload dX5_plan_46 rfl hw.1 ?_
        have hw := hw.2
        exact am_ireturn dX5_plan_47 rfl ⟨_, _, rfl, rfl, hw⟩
      · have hw := hw.2 c7
        refine am_iload_n dX5_plan_48 rfl ?_
        refine am_iconst dX5_plan_49 ic_0 ?_
        refine am_aload_n dX5_plan_50 rfl ?_
        refine am_getf dX5_plan_51 fl_X5_54 rfl rfl ?_
        refine am_iload dX5_plan_54 rfl ?_
        refine am_iaload dX5_plan_56 rfl hw.1 ?_
        have hw := hw.2
        refine am_iconst dX5_plan_57 ic_1 ?_
        refine am_isub dX5_plan_58 ?_
        refine am_stS dX5_plan_59 q_X5_plan_84 (sX5_in hw) rfl rfl rfl rfl (fun r8 hw => ?_)
        refine am_if_ne 68 dX5_plan_62 (by decide) (fun c9 => ?_) (fun c9 => ?_)
        · have hw := hw.1 c9
          refine am_bipush dX5_plan_65 bc_m11 ?_
          exact am_ireturn dX5_plan_67 rfl ⟨_, _, rfl, rfl, hw⟩
        · have hw := hw.2 c9
          refine am_aload_n dX5_plan_68 rfl ?_
          refine am_iload dX5_plan_69 rfl ?_
          refine am_selfI fam_X5 rfl dX5_plan_71 q_X5_plan_228 rfl (sX5_bestAction hw) rfl rfl rfl rfl rfl (fun r10 m11 hw => ?_)
          refine am_istore' (ls' := [some (.ref 0), some (.int a1), some (.int a2), some (.int a3), some (.int r1), some (.int r4), some (.int r10), none]) dX5_plan_74 rfl rfl rfl ?_
          refine am_iconst dX5_plan_76 ic_0 ?_
          refine am_istore' (ls' := [some (.ref 0), some (.int a1), some (.int a2), some (.int a3), some (.int r1), some (.int r4), some (.int r10), some (.int (0 : Int32))]) dX5_plan_77 rfl rfl rfl ?_
          obtain ⟨n18, hw⟩ := hw
          refine am_forget (ls' := [some (.ref 0), none, none, some (.int a3), none, some (.int r4), some (.int r10), some (.int (0 : Int32))]) [true, false, false, true, false, true, true, true] rfl ?_
          exact slpX5_plan_79  n18 _ _ _ _ _ hw
  · have hw := hw.2 c3
    refine am_iload dX5_plan_13 rfl ?_
    exact am_ireturn dX5_plan_15 rfl ⟨_, _, rfl, rfl, hw⟩

def lpX5_save_14 (K : Int32 → Mu → Prop)  : Nat → Int32 → Int32 → Mu → Prop
  | 0, _, _, _ => False
  | n + 1, v1, v2, m0 => (((148 : Int32) ≤ v2 → (vp_in v1 2 ∧ ∀ m4 : Mu, m4 = mu_up m0 2 (v1).toNatClampNeg (vp_nar .boolean (1 : Int32)) → (vp_in (14 : Int32) 148 ∧ K (m4 0 ((14 : Int32)).toNatClampNeg) m4))) ∧ (¬ (148 : Int32) ≤ v2 → (vp_in v2 148 ∧ (vp_in (((148 : Int32) * v1) + v2) 296 ∧ ∀ m5 : Mu, m5 = mu_up m0 1 ((((148 : Int32) * v1) + v2)).toNatClampNeg (m0 0 (v2).toNatClampNeg) → ∀ x6 : Int32, x6 = v2 + (1 : Int32) → lpX5_save_14 K n v1 x6 m5))))
set_option maxRecDepth 20000 in
theorem slpX5_save_14 {K : Int32 → Mu → Prop} : ∀ (n : Nat) (v1 v2 : Int32) (m0 : Mu), lpX5_save_14 K n v1 v2 m0 → am_Ok mX5_save none (zI fX5 K) 0 0 14 [some (.ref 0), some (.int v1), some (.int v2)] [] (fX5 m0) := by
  intro n
  induction n with
  | zero => intro v1 v2 m0 hw; exact False.elim hw
  | succ n ih =>
    intro v1 v2 m0 hw
    unfold lpX5_save_14 at hw
    refine am_iload_n dX5_save_14 rfl ?_
    refine am_sipush dX5_save_15 sc_148 ?_
    refine am_icmp_ge 45 dX5_save_18 (by decide) (fun c3 => ?_) (fun c3 => ?_)
    · have hw := hw.1 c3
      refine am_aload_n dX5_save_45 rfl ?_
      refine am_getf dX5_save_46 fl_X5_16 rfl rfl ?_
      refine am_iload_n dX5_save_49 rfl ?_
      refine am_iconst dX5_save_50 ic_1 ?_
      refine am_bastore' (F := fX5) (m := mu_up m0 2 (v1).toNatClampNeg (vp_nar .boolean (1 : Int32))) dX5_save_51 rfl hw.1 rfl (fun m4 em4 => ?_)
      have hw := hw.2 m4 em4
      refine am_aload_n dX5_save_52 rfl ?_
      refine am_getf dX5_save_53 fl_X5_7 rfl rfl ?_
      refine am_bipush dX5_save_56 bc_14 ?_
      refine am_iaload dX5_save_58 rfl hw.1 ?_
      have hw := hw.2
      exact am_ireturn dX5_save_59 rfl ⟨_, _, rfl, rfl, hw⟩
    · have hw := hw.2 c3
      refine am_aload_n dX5_save_21 rfl ?_
      refine am_getf dX5_save_22 fl_X5_13 rfl rfl ?_
      refine am_sipush dX5_save_25 sc_148 ?_
      refine am_iload_n dX5_save_28 rfl ?_
      refine am_imul dX5_save_29 ?_
      refine am_iload_n dX5_save_30 rfl ?_
      refine am_iadd dX5_save_31 ?_
      refine am_aload_n dX5_save_32 rfl ?_
      refine am_getf dX5_save_33 fl_X5_7 rfl rfl ?_
      refine am_iload_n dX5_save_36 rfl ?_
      refine am_iaload dX5_save_37 rfl hw.1 ?_
      have hw := hw.2
      refine am_iastore' (F := fX5) (m := mu_up m0 1 ((((148 : Int32) * v1) + v2)).toNatClampNeg (m0 0 (v2).toNatClampNeg)) dX5_save_38 rfl hw.1 rfl (fun m5 em5 => ?_)
      have hw := hw.2 m5 em5
      refine am_iinc' (lf := fun y9 => [some (.ref 0), some (.int v1), some (.int y9)]) dX5_save_39 rfl rfl rfl ic_1 (fun _ => rfl) (fun x6 ex6 => ?_)
      have hw := hw x6 ex6
      refine am_goto 14 dX5_save_42 (by decide) ?_
      refine am_forget (ls' := [some (.ref 0), some (.int v1), some (.int x6)]) [true, true, true] rfl ?_
      exact ih _ _ _ hw
def wX5_save (a1 : Int32) (m0 : Mu) (K : Int32 → Mu → Prop) : Prop := wX5_in a1 (0 : Int32) (1 : Int32) (fun r1 : Int32 => ((r1 = 0 → K (-4 : Int32) m0) ∧ (¬ r1 = 0 → (∃ n7 : Nat, lpX5_save_14 K n7 a1 (0 : Int32) m0))))
set_option maxRecDepth 20000 in
theorem sX5_save {a1 : Int32} {m0 : Mu} {K : Int32 → Mu → Prop} (hw : wX5_save a1 m0 K) : am_Met mX5_save [.ref 0, .int a1] (fX5 m0) 0 0 (zI fX5 K) := by
  unfold wX5_save at hw
  refine am_Met.of2 (ls := [some (.ref 0), some (.int a1), none]) pf_X5_save rfl rfl rfl rfl ?_
  refine am_iload_n dX5_save_0 rfl ?_
  refine am_iconst dX5_save_1 ic_0 ?_
  refine am_iconst dX5_save_2 ic_1 ?_
  refine am_stS dX5_save_3 q_X5_save_84 (sX5_in hw) rfl rfl rfl rfl (fun r1 hw => ?_)
  refine am_if_ne 12 dX5_save_6 (by decide) (fun c2 => ?_) (fun c2 => ?_)
  · have hw := hw.1 c2
    refine am_bipush dX5_save_9 bc_m4 ?_
    exact am_ireturn dX5_save_11 rfl ⟨_, _, rfl, rfl, hw⟩
  · have hw := hw.2 c2
    refine am_iconst dX5_save_12 ic_0 ?_
    refine am_istore_n' (ls' := [some (.ref 0), some (.int a1), some (.int (0 : Int32))]) dX5_save_13 rfl rfl rfl ?_
    obtain ⟨n7, hw⟩ := hw
    refine am_forget (ls' := [some (.ref 0), some (.int a1), some (.int (0 : Int32))]) [true, true, true] rfl ?_
    exact slpX5_save_14  n7 _ _ _ hw

def lpX5_restore_26 (K : Int32 → Mu → Prop)  : Nat → Int32 → Int32 → Mu → Prop
  | 0, _, _, _ => False
  | n + 1, v1, v2, m0 => (((148 : Int32) ≤ v2 → wX5_change m0 (fun m5 : Mu => (vp_in (14 : Int32) 148 ∧ K (m5 0 ((14 : Int32)).toNatClampNeg) m5))) ∧ (¬ (148 : Int32) ≤ v2 → (vp_in (((148 : Int32) * v1) + v2) 296 ∧ (vp_in v2 148 ∧ ∀ m6 : Mu, m6 = mu_up m0 0 (v2).toNatClampNeg (m0 1 ((((148 : Int32) * v1) + v2)).toNatClampNeg) → ∀ x7 : Int32, x7 = v2 + (1 : Int32) → lpX5_restore_26 K n v1 x7 m6))))
set_option maxRecDepth 20000 in
theorem slpX5_restore_26 {K : Int32 → Mu → Prop} : ∀ (n : Nat) (v1 v2 : Int32) (m0 : Mu), lpX5_restore_26 K n v1 v2 m0 → am_Ok mX5_restore none (zI fX5 K) 0 0 26 [some (.ref 0), some (.int v1), some (.int v2)] [] (fX5 m0) := by
  intro n
  induction n with
  | zero => intro v1 v2 m0 hw; exact False.elim hw
  | succ n ih =>
    intro v1 v2 m0 hw
    unfold lpX5_restore_26 at hw
    refine am_iload_n dX5_restore_26 rfl ?_
    refine am_sipush dX5_restore_27 sc_148 ?_
    refine am_icmp_ge 57 dX5_restore_30 (by decide) (fun c4 => ?_) (fun c4 => ?_)
    · have hw := hw.1 c4
      refine am_aload_n dX5_restore_57 rfl ?_
      refine am_selfU fam_X5 rfl dX5_restore_58 q_X5_restore_100 rfl (sX5_change hw) rfl rfl rfl rfl rfl (fun m5 hw => ?_)
      refine am_aload_n dX5_restore_61 rfl ?_
      refine am_getf dX5_restore_62 fl_X5_7 rfl rfl ?_
      refine am_bipush dX5_restore_65 bc_14 ?_
      refine am_iaload dX5_restore_67 rfl hw.1 ?_
      have hw := hw.2
      exact am_ireturn dX5_restore_68 rfl ⟨_, _, rfl, rfl, hw⟩
    · have hw := hw.2 c4
      refine am_aload_n dX5_restore_33 rfl ?_
      refine am_getf dX5_restore_34 fl_X5_7 rfl rfl ?_
      refine am_iload_n dX5_restore_37 rfl ?_
      refine am_aload_n dX5_restore_38 rfl ?_
      refine am_getf dX5_restore_39 fl_X5_13 rfl rfl ?_
      refine am_sipush dX5_restore_42 sc_148 ?_
      refine am_iload_n dX5_restore_45 rfl ?_
      refine am_imul dX5_restore_46 ?_
      refine am_iload_n dX5_restore_47 rfl ?_
      refine am_iadd dX5_restore_48 ?_
      refine am_iaload dX5_restore_49 rfl hw.1 ?_
      have hw := hw.2
      refine am_iastore' (F := fX5) (m := mu_up m0 0 (v2).toNatClampNeg (m0 1 ((((148 : Int32) * v1) + v2)).toNatClampNeg)) dX5_restore_50 rfl hw.1 rfl (fun m6 em6 => ?_)
      have hw := hw.2 m6 em6
      refine am_iinc' (lf := fun y9 => [some (.ref 0), some (.int v1), some (.int y9)]) dX5_restore_51 rfl rfl rfl ic_1 (fun _ => rfl) (fun x7 ex7 => ?_)
      have hw := hw x7 ex7
      refine am_goto 26 dX5_restore_54 (by decide) ?_
      refine am_forget (ls' := [some (.ref 0), some (.int v1), some (.int x7)]) [true, true, true] rfl ?_
      exact ih _ _ _ hw
def wX5_restore (a1 : Int32) (m0 : Mu) (K : Int32 → Mu → Prop) : Prop := wX5_in a1 (0 : Int32) (1 : Int32) (fun r1 : Int32 => ((r1 = 0 → K (-4 : Int32) m0) ∧ (¬ r1 = 0 → (vp_in a1 2 ∧ (((m0 2 (a1).toNatClampNeg) = 0 → K (-10 : Int32) m0) ∧ (¬ (m0 2 (a1).toNatClampNeg) = 0 → (∃ n8 : Nat, lpX5_restore_26 K n8 a1 (0 : Int32) m0)))))))
set_option maxRecDepth 20000 in
theorem sX5_restore {a1 : Int32} {m0 : Mu} {K : Int32 → Mu → Prop} (hw : wX5_restore a1 m0 K) : am_Met mX5_restore [.ref 0, .int a1] (fX5 m0) 0 0 (zI fX5 K) := by
  unfold wX5_restore at hw
  refine am_Met.of2 (ls := [some (.ref 0), some (.int a1), none]) pf_X5_restore rfl rfl rfl rfl ?_
  refine am_iload_n dX5_restore_0 rfl ?_
  refine am_iconst dX5_restore_1 ic_0 ?_
  refine am_iconst dX5_restore_2 ic_1 ?_
  refine am_stS dX5_restore_3 q_X5_restore_84 (sX5_in hw) rfl rfl rfl rfl (fun r1 hw => ?_)
  refine am_if_ne 12 dX5_restore_6 (by decide) (fun c2 => ?_) (fun c2 => ?_)
  · have hw := hw.1 c2
    refine am_bipush dX5_restore_9 bc_m4 ?_
    exact am_ireturn dX5_restore_11 rfl ⟨_, _, rfl, rfl, hw⟩
  · have hw := hw.2 c2
    refine am_aload_n dX5_restore_12 rfl ?_
    refine am_getf dX5_restore_13 fl_X5_16 rfl rfl ?_
    refine am_iload_n dX5_restore_16 rfl ?_
    refine am_baload dX5_restore_17 rfl hw.1 ?_
    have hw := hw.2
    refine am_if_ne 24 dX5_restore_18 (by decide) (fun c3 => ?_) (fun c3 => ?_)
    · have hw := hw.1 c3
      refine am_bipush dX5_restore_21 bc_m10 ?_
      exact am_ireturn dX5_restore_23 rfl ⟨_, _, rfl, rfl, hw⟩
    · have hw := hw.2 c3
      refine am_iconst dX5_restore_24 ic_0 ?_
      refine am_istore_n' (ls' := [some (.ref 0), some (.int a1), some (.int (0 : Int32))]) dX5_restore_25 rfl rfl rfl ?_
      obtain ⟨n8, hw⟩ := hw
      refine am_forget (ls' := [some (.ref 0), some (.int a1), some (.int (0 : Int32))]) [true, true, true] rfl ?_
      exact slpX5_restore_26  n8 _ _ _ hw
