def wX3_copyFrom (m0 : Mu) (K : Mu → Prop) : Prop := ∀ m1 : Mu, m1 = mu_set m0 0 (va_cpy (m0 10) (m0 0) 0 0 13) → ∀ m2 : Mu, m2 = mu_set m1 1 (va_cpy (m1 11) (m1 1) 0 0 13) → ∀ m3 : Mu, m3 = mu_set m2 2 (va_cpy (m2 12) (m2 2) 0 0 13) → ∀ m4 : Mu, m4 = mu_set m3 3 (va_cpy (m3 13) (m3 3) 0 0 104) → ∀ m5 : Mu, m5 = mu_set m4 4 (va_cpy (m4 14) (m4 4) 0 0 8) → ∀ m6 : Mu, m6 = mu_up m5 8 5 (m5 18 5) → ∀ m7 : Mu, m7 = mu_up m6 8 6 (m6 18 6) → ∀ m8 : Mu, m8 = mu_up m7 8 7 (m7 18 7) → K m8
set_option maxRecDepth 20000 in
theorem sX3_copyFrom {m0 : Mu} {K : Mu → Prop} (hw : wX3_copyFrom m0 K) : am_Met mX3_copyFrom [.ref 0, .ref 6] (fX3Y m0) 0 0 (zV fX3Y K) := by
  unfold wX3_copyFrom at hw
  refine am_Met.of2 (ls := [some (.ref 0), some (.ref 6)]) pf_X3_copyFrom rfl rfl rfl rfl ?_
  refine am_aload_n dX3_copyFrom_0 rfl ?_
  refine am_getf dX3_copyFrom_1 fl_X3_9 rfl rfl ?_
  refine am_iconst dX3_copyFrom_4 ic_0 ?_
  refine am_aload_n dX3_copyFrom_5 rfl ?_
  refine am_getf dX3_copyFrom_6 fl_X3_9 rfl rfl ?_
  refine am_iconst dX3_copyFrom_9 ic_0 ?_
  refine am_bipush dX3_copyFrom_10 bc_13 ?_
  refine am_copy dX3_copyFrom_12 wd_448 wd_450 wd_449 wd_62 rfl rfl (by decide) (by decide) (by decide) (by decide) (by decide) (by decide) (by decide) ?_
  refine am_hm (F := fX3Y) (m := mu_set m0 0 (va_cpy (m0 10) (m0 0) 0 0 13)) rfl (fun m1 em1 => ?_)
  have hw := hw m1 em1
  refine am_aload_n dX3_copyFrom_15 rfl ?_
  refine am_getf dX3_copyFrom_16 fl_X3_15 rfl rfl ?_
  refine am_iconst dX3_copyFrom_19 ic_0 ?_
  refine am_aload_n dX3_copyFrom_20 rfl ?_
  refine am_getf dX3_copyFrom_21 fl_X3_15 rfl rfl ?_
  refine am_iconst dX3_copyFrom_24 ic_0 ?_
  refine am_bipush dX3_copyFrom_25 bc_13 ?_
  refine am_copy dX3_copyFrom_27 wd_448 wd_450 wd_449 wd_62 rfl rfl (by decide) (by decide) (by decide) (by decide) (by decide) (by decide) (by decide) ?_
  refine am_hm (F := fX3Y) (m := mu_set m1 1 (va_cpy (m1 11) (m1 1) 0 0 13)) rfl (fun m2 em2 => ?_)
  have hw := hw m2 em2
  refine am_aload_n dX3_copyFrom_30 rfl ?_
  refine am_getf dX3_copyFrom_31 fl_X3_18 rfl rfl ?_
  refine am_iconst dX3_copyFrom_34 ic_0 ?_
  refine am_aload_n dX3_copyFrom_35 rfl ?_
  refine am_getf dX3_copyFrom_36 fl_X3_18 rfl rfl ?_
  refine am_iconst dX3_copyFrom_39 ic_0 ?_
  refine am_bipush dX3_copyFrom_40 bc_13 ?_
  refine am_copy dX3_copyFrom_42 wd_448 wd_450 wd_449 wd_62 rfl rfl (by decide) (by decide) (by decide) (by decide) (by decide) (by decide) (by decide) ?_
  refine am_hm (F := fX3Y) (m := mu_set m2 2 (va_cpy (m2 12) (m2 2) 0 0 13)) rfl (fun m3 em3 => ?_)
  have hw := hw m3 em3
  refine am_aload_n dX3_copyFrom_45 rfl ?_
  refine am_getf dX3_copyFrom_46 fl_X3_21 rfl rfl ?_
  refine am_iconst dX3_copyFrom_49 ic_0 ?_
  refine am_aload_n dX3_copyFrom_50 rfl ?_
  refine am_getf dX3_copyFrom_51 fl_X3_21 rfl rfl ?_
  refine am_iconst dX3_copyFrom_54 ic_0 ?_
  refine am_bipush dX3_copyFrom_55 bc_104 ?_
  refine am_copy dX3_copyFrom_57 wd_448 wd_450 wd_449 wd_62 rfl rfl (by decide) (by decide) (by decide) (by decide) (by decide) (by decide) (by decide) ?_
  refine am_hm (F := fX3Y) (m := mu_set m3 3 (va_cpy (m3 13) (m3 3) 0 0 104)) rfl (fun m4 em4 => ?_)
  have hw := hw m4 em4
  refine am_aload_n dX3_copyFrom_60 rfl ?_
  refine am_getf dX3_copyFrom_61 fl_X3_24 rfl rfl ?_
  refine am_iconst dX3_copyFrom_64 ic_0 ?_
  refine am_aload_n dX3_copyFrom_65 rfl ?_
  refine am_getf dX3_copyFrom_66 fl_X3_24 rfl rfl ?_
  refine am_iconst dX3_copyFrom_69 ic_0 ?_
  refine am_bipush dX3_copyFrom_70 bc_8 ?_
  refine am_copy dX3_copyFrom_72 wd_448 wd_450 wd_449 wd_62 rfl rfl (by decide) (by decide) (by decide) (by decide) (by decide) (by decide) (by decide) ?_
  refine am_hm (F := fX3Y) (m := mu_set m4 4 (va_cpy (m4 14) (m4 4) 0 0 8)) rfl (fun m5 em5 => ?_)
  have hw := hw m5 em5
  refine am_aload_n dX3_copyFrom_75 rfl ?_
  refine am_aload_n dX3_copyFrom_76 rfl ?_
  refine am_getf dX3_copyFrom_77 fl_X3_33 rfl rfl ?_
  refine am_putf' (F := fX3Y) (m := mu_up m5 8 5 (m5 18 5)) dX3_copyFrom_80 fp_X3_33 rfl rfl rfl (fun m6 em6 => ?_)
  have hw := hw m6 em6
  refine am_aload_n dX3_copyFrom_83 rfl ?_
  refine am_aload_n dX3_copyFrom_84 rfl ?_
  refine am_getf dX3_copyFrom_85 fl_X3_37 rfl rfl ?_
  refine am_putf' (F := fX3Y) (m := mu_up m6 8 6 (m6 18 6)) dX3_copyFrom_88 fp_X3_37 rfl rfl rfl (fun m7 em7 => ?_)
  have hw := hw m7 em7
  refine am_aload_n dX3_copyFrom_91 rfl ?_
  refine am_aload_n dX3_copyFrom_92 rfl ?_
  refine am_getf dX3_copyFrom_93 fl_X3_40 rfl rfl ?_
  refine am_putf' (F := fX3Y) (m := mu_up m7 8 7 (m7 18 7)) dX3_copyFrom_96 fp_X3_40 rfl rfl rfl (fun m8 em8 => ?_)
  have hw := hw m8 em8
  exact am_vreturn dX3_copyFrom_99 rfl ⟨_, rfl, rfl, hw⟩

def wX3_isLocomotive (a1 : Int32) (m0 : Mu) (K : Int32 → Prop) : Prop := ((a1 < 0 → K (0 : Int32)) ∧ (¬ a1 < 0 → (((m0 8 5) ≤ a1 → K (0 : Int32)) ∧ (¬ (m0 8 5) ≤ a1 → (((8 : Int32) ≤ a1 → K (0 : Int32)) ∧ (¬ (8 : Int32) ≤ a1 → K (1 : Int32)))))))
set_option maxRecDepth 20000 in
theorem sX3_isLocomotive {a1 : Int32} {m0 : Mu} {K : Int32 → Prop} (hw : wX3_isLocomotive a1 m0 K) : am_Met mX3_isLocomotive [.ref 0, .int a1] (fX3 m0) 0 0 (zP (fX3 m0) K) := by
  unfold wX3_isLocomotive at hw
  refine am_Met.of2 (ls := [some (.ref 0), some (.int a1)]) pf_X3_isLocomotive rfl rfl rfl rfl ?_
  refine am_iload_n dX3_isLocomotive_0 rfl ?_
  refine am_if_lt 22 dX3_isLocomotive_1 (by decide) (fun c1 => ?_) (fun c1 => ?_)
  · have hw := hw.1 c1
    refine am_iconst dX3_isLocomotive_22 ic_0 ?_
    exact am_zreturn dX3_isLocomotive_23 rfl rfl ⟨_, rfl, rfl, hw⟩
  · have hw := hw.2 c1
    refine am_iload_n dX3_isLocomotive_4 rfl ?_
    refine am_aload_n dX3_isLocomotive_5 rfl ?_
    refine am_getf dX3_isLocomotive_6 fl_X3_33 rfl rfl ?_
    refine am_icmp_ge 22 dX3_isLocomotive_9 (by decide) (fun c2 => ?_) (fun c2 => ?_)
    · have hw := hw.1 c2
      refine am_iconst dX3_isLocomotive_22 ic_0 ?_
      exact am_zreturn dX3_isLocomotive_23 rfl rfl ⟨_, rfl, rfl, hw⟩
    · have hw := hw.2 c2
      refine am_iload_n dX3_isLocomotive_12 rfl ?_
      refine am_bipush dX3_isLocomotive_13 bc_8 ?_
      refine am_icmp_ge 22 dX3_isLocomotive_15 (by decide) (fun c3 => ?_) (fun c3 => ?_)
      · have hw := hw.1 c3
        refine am_iconst dX3_isLocomotive_22 ic_0 ?_
        exact am_zreturn dX3_isLocomotive_23 rfl rfl ⟨_, rfl, rfl, hw⟩
      · have hw := hw.2 c3
        refine am_iconst dX3_isLocomotive_18 ic_1 ?_
        refine am_goto 23 dX3_isLocomotive_19 (by decide) ?_
        exact am_zreturn dX3_isLocomotive_23 rfl rfl ⟨_, rfl, rfl, hw⟩

def wX3_isAlive (a1 : Int32) (m0 : Mu) (K : Int32 → Prop) : Prop := wX3_isLocomotive a1 m0 (fun r1 : Int32 => ((r1 = 0 → K (0 : Int32)) ∧ (¬ r1 = 0 → (((((m0 8 6) >>> (a1 &&& 31)) &&& (1 : Int32)) = 0 → K (1 : Int32)) ∧ (¬ (((m0 8 6) >>> (a1 &&& 31)) &&& (1 : Int32)) = 0 → K (0 : Int32))))))
set_option maxRecDepth 20000 in
theorem sX3_isAlive {a1 : Int32} {m0 : Mu} {K : Int32 → Prop} (hw : wX3_isAlive a1 m0 K) : am_Met mX3_isAlive [.ref 0, .int a1] (fX3 m0) 0 0 (zP (fX3 m0) K) := by
  unfold wX3_isAlive at hw
  refine am_Met.of2 (ls := [some (.ref 0), some (.int a1)]) pf_X3_isAlive rfl rfl rfl rfl ?_
  refine am_aload_n dX3_isAlive_0 rfl ?_
  refine am_iload_n dX3_isAlive_1 rfl ?_
  refine am_selfP fam_X3 rfl dX3_isAlive_2 q_X3_isAlive_43 rfl (sX3_isLocomotive hw) rfl rfl rfl rfl rfl (fun r1 hw => ?_)
  refine am_if_eq 23 dX3_isAlive_5 (by decide) (fun c2 => ?_) (fun c2 => ?_)
  · have hw := hw.1 c2
    refine am_iconst dX3_isAlive_23 ic_0 ?_
    exact am_zreturn dX3_isAlive_24 rfl rfl ⟨_, rfl, rfl, hw⟩
  · have hw := hw.2 c2
    refine am_aload_n dX3_isAlive_8 rfl ?_
    refine am_getf dX3_isAlive_9 fl_X3_37 rfl rfl ?_
    refine am_iload_n dX3_isAlive_12 rfl ?_
    refine am_ishr dX3_isAlive_13 ?_
    refine am_iconst dX3_isAlive_14 ic_1 ?_
    refine am_iand dX3_isAlive_15 ?_
    refine am_if_ne 23 dX3_isAlive_16 (by decide) (fun c3 => ?_) (fun c3 => ?_)
    · have hw := hw.1 c3
      refine am_iconst dX3_isAlive_19 ic_1 ?_
      refine am_goto 24 dX3_isAlive_20 (by decide) ?_
      exact am_zreturn dX3_isAlive_24 rfl rfl ⟨_, rfl, rfl, hw⟩
    · have hw := hw.2 c3
      refine am_iconst dX3_isAlive_23 ic_0 ?_
      exact am_zreturn dX3_isAlive_24 rfl rfl ⟨_, rfl, rfl, hw⟩

def wX3_sizeOf (a1 : Int32) (m0 : Mu) (K : Int32 → Prop) : Prop := ((a1 < 0 → K (0 : Int32)) ∧ (¬ a1 < 0 → (((8 : Int32) ≤ a1 → K (0 : Int32)) ∧ (¬ (8 : Int32) ≤ a1 → (vp_in a1 8 ∧ K (m0 4 (a1).toNatClampNeg))))))
set_option maxRecDepth 20000 in
theorem sX3_sizeOf {a1 : Int32} {m0 : Mu} {K : Int32 → Prop} (hw : wX3_sizeOf a1 m0 K) : am_Met mX3_sizeOf [.ref 0, .int a1] (fX3 m0) 0 0 (zP (fX3 m0) K) := by
  unfold wX3_sizeOf at hw
  refine am_Met.of2 (ls := [some (.ref 0), some (.int a1)]) pf_X3_sizeOf rfl rfl rfl rfl ?_
  refine am_iload_n dX3_sizeOf_0 rfl ?_
  refine am_if_lt 19 dX3_sizeOf_1 (by decide) (fun c1 => ?_) (fun c1 => ?_)
  · have hw := hw.1 c1
    refine am_iconst dX3_sizeOf_19 ic_0 ?_
    exact am_ireturn dX3_sizeOf_20 rfl ⟨_, rfl, rfl, hw⟩
  · have hw := hw.2 c1
    refine am_iload_n dX3_sizeOf_4 rfl ?_
    refine am_bipush dX3_sizeOf_5 bc_8 ?_
    refine am_icmp_ge 19 dX3_sizeOf_7 (by decide) (fun c2 => ?_) (fun c2 => ?_)
    · have hw := hw.1 c2
      refine am_iconst dX3_sizeOf_19 ic_0 ?_
      exact am_ireturn dX3_sizeOf_20 rfl ⟨_, rfl, rfl, hw⟩
    · have hw := hw.2 c2
      refine am_aload_n dX3_sizeOf_10 rfl ?_
      refine am_getf dX3_sizeOf_11 fl_X3_24 rfl rfl ?_
      refine am_iload_n dX3_sizeOf_14 rfl ?_
      refine am_iaload dX3_sizeOf_15 rfl hw.1 ?_
      have hw := hw.2
      refine am_goto 20 dX3_sizeOf_16 (by decide) ?_
      exact am_ireturn dX3_sizeOf_20 rfl ⟨_, rfl, rfl, hw⟩

def wX3_lengthAt (a1 : Int32) (m0 : Mu) (K : Int32 → Prop) : Prop := ((a1 < 0 → K (0 : Int32)) ∧ (¬ a1 < 0 → (((13 : Int32) ≤ a1 → K (0 : Int32)) ∧ (¬ (13 : Int32) ≤ a1 → (vp_in a1 13 ∧ K (m0 0 (a1).toNatClampNeg))))))
set_option maxRecDepth 20000 in
theorem sX3_lengthAt {a1 : Int32} {m0 : Mu} {K : Int32 → Prop} (hw : wX3_lengthAt a1 m0 K) : am_Met mX3_lengthAt [.ref 0, .int a1] (fX3 m0) 0 0 (zP (fX3 m0) K) := by
  unfold wX3_lengthAt at hw
  refine am_Met.of2 (ls := [some (.ref 0), some (.int a1)]) pf_X3_lengthAt rfl rfl rfl rfl ?_
  refine am_iload_n dX3_lengthAt_0 rfl ?_
  refine am_if_lt 19 dX3_lengthAt_1 (by decide) (fun c1 => ?_) (fun c1 => ?_)
  · have hw := hw.1 c1
    refine am_iconst dX3_lengthAt_19 ic_0 ?_
    exact am_ireturn dX3_lengthAt_20 rfl ⟨_, rfl, rfl, hw⟩
  · have hw := hw.2 c1
    refine am_iload_n dX3_lengthAt_4 rfl ?_
    refine am_bipush dX3_lengthAt_5 bc_13 ?_
    refine am_icmp_ge 19 dX3_lengthAt_7 (by decide) (fun c2 => ?_) (fun c2 => ?_)
    · have hw := hw.1 c2
      refine am_iconst dX3_lengthAt_19 ic_0 ?_
      exact am_ireturn dX3_lengthAt_20 rfl ⟨_, rfl, rfl, hw⟩
    · have hw := hw.2 c2
      refine am_aload_n dX3_lengthAt_10 rfl ?_
      refine am_getf dX3_lengthAt_11 fl_X3_9 rfl rfl ?_
      refine am_iload_n dX3_lengthAt_14 rfl ?_
      refine am_iaload dX3_lengthAt_15 rfl hw.1 ?_
      have hw := hw.2
      refine am_goto 20 dX3_lengthAt_16 (by decide) ?_
      exact am_ireturn dX3_lengthAt_20 rfl ⟨_, rfl, rfl, hw⟩

def wX3_usedAt (a1 : Int32) (m0 : Mu) (K : Int32 → Prop) : Prop := ((a1 < 0 → K (0 : Int32)) ∧ (¬ a1 < 0 → (((13 : Int32) ≤ a1 → K (0 : Int32)) ∧ (¬ (13 : Int32) ≤ a1 → (vp_in a1 13 ∧ K (m0 1 (a1).toNatClampNeg))))))
set_option maxRecDepth 20000 in
theorem sX3_usedAt {a1 : Int32} {m0 : Mu} {K : Int32 → Prop} (hw : wX3_usedAt a1 m0 K) : am_Met mX3_usedAt [.ref 0, .int a1] (fX3 m0) 0 0 (zP (fX3 m0) K) := by
  unfold wX3_usedAt at hw
  refine am_Met.of2 (ls := [some (.ref 0), some (.int a1)]) pf_X3_usedAt rfl rfl rfl rfl ?_
  refine am_iload_n dX3_usedAt_0 rfl ?_
  refine am_if_lt 19 dX3_usedAt_1 (by decide) (fun c1 => ?_) (fun c1 => ?_)
  · have hw := hw.1 c1
    refine am_iconst dX3_usedAt_19 ic_0 ?_
    exact am_ireturn dX3_usedAt_20 rfl ⟨_, rfl, rfl, hw⟩
  · have hw := hw.2 c1
    refine am_iload_n dX3_usedAt_4 rfl ?_
    refine am_bipush dX3_usedAt_5 bc_13 ?_
    refine am_icmp_ge 19 dX3_usedAt_7 (by decide) (fun c2 => ?_) (fun c2 => ?_)
    · have hw := hw.1 c2
      refine am_iconst dX3_usedAt_19 ic_0 ?_
      exact am_ireturn dX3_usedAt_20 rfl ⟨_, rfl, rfl, hw⟩
    · have hw := hw.2 c2
      refine am_aload_n dX3_usedAt_10 rfl ?_
      refine am_getf dX3_usedAt_11 fl_X3_15 rfl rfl ?_
      refine am_iload_n dX3_usedAt_14 rfl ?_
      refine am_iaload dX3_usedAt_15 rfl hw.1 ?_
      have hw := hw.2
      refine am_goto 20 dX3_usedAt_16 (by decide) ?_
      exact am_ireturn dX3_usedAt_20 rfl ⟨_, rfl, rfl, hw⟩

def wX3_freeAt (a1 : Int32) (m0 : Mu) (K : Int32 → Prop) : Prop := wX3_lengthAt a1 m0 (fun r1 : Int32 => wX3_usedAt a1 m0 (fun r2 : Int32 => K (r1 - r2)))
set_option maxRecDepth 20000 in
theorem sX3_freeAt {a1 : Int32} {m0 : Mu} {K : Int32 → Prop} (hw : wX3_freeAt a1 m0 K) : am_Met mX3_freeAt [.ref 0, .int a1] (fX3 m0) 0 0 (zP (fX3 m0) K) := by
  unfold wX3_freeAt at hw
  refine am_Met.of2 (ls := [some (.ref 0), some (.int a1)]) pf_X3_freeAt rfl rfl rfl rfl ?_
  refine am_aload_n dX3_freeAt_0 rfl ?_
  refine am_iload_n dX3_freeAt_1 rfl ?_
  refine am_selfP fam_X3 rfl dX3_freeAt_2 q_X3_freeAt_47 rfl (sX3_lengthAt hw) rfl rfl rfl rfl rfl (fun r1 hw => ?_)
  refine am_aload_n dX3_freeAt_5 rfl ?_
  refine am_iload_n dX3_freeAt_6 rfl ?_
  refine am_selfP fam_X3 rfl dX3_freeAt_7 q_X3_freeAt_51 rfl (sX3_usedAt hw) rfl rfl rfl rfl rfl (fun r2 hw => ?_)
  refine am_isub dX3_freeAt_10 ?_
  exact am_ireturn dX3_freeAt_11 rfl ⟨_, rfl, rfl, hw⟩

def wX3_countAt (a1 : Int32) (m0 : Mu) (K : Int32 → Prop) : Prop := ((a1 < 0 → K (0 : Int32)) ∧ (¬ a1 < 0 → (((13 : Int32) ≤ a1 → K (0 : Int32)) ∧ (¬ (13 : Int32) ≤ a1 → (vp_in a1 13 ∧ K (m0 2 (a1).toNatClampNeg))))))
set_option maxRecDepth 20000 in
theorem sX3_countAt {a1 : Int32} {m0 : Mu} {K : Int32 → Prop} (hw : wX3_countAt a1 m0 K) : am_Met mX3_countAt [.ref 0, .int a1] (fX3 m0) 0 0 (zP (fX3 m0) K) := by
  unfold wX3_countAt at hw
  refine am_Met.of2 (ls := [some (.ref 0), some (.int a1)]) pf_X3_countAt rfl rfl rfl rfl ?_
  refine am_iload_n dX3_countAt_0 rfl ?_
  refine am_if_lt 19 dX3_countAt_1 (by decide) (fun c1 => ?_) (fun c1 => ?_)
  · have hw := hw.1 c1
    refine am_iconst dX3_countAt_19 ic_0 ?_
    exact am_ireturn dX3_countAt_20 rfl ⟨_, rfl, rfl, hw⟩
  · have hw := hw.2 c1
    refine am_iload_n dX3_countAt_4 rfl ?_
    refine am_bipush dX3_countAt_5 bc_13 ?_
    refine am_icmp_ge 19 dX3_countAt_7 (by decide) (fun c2 => ?_) (fun c2 => ?_)
    · have hw := hw.1 c2
      refine am_iconst dX3_countAt_19 ic_0 ?_
      exact am_ireturn dX3_countAt_20 rfl ⟨_, rfl, rfl, hw⟩
    · have hw := hw.2 c2
      refine am_aload_n dX3_countAt_10 rfl ?_
      refine am_getf dX3_countAt_11 fl_X3_18 rfl rfl ?_
      refine am_iload_n dX3_countAt_14 rfl ?_
      refine am_iaload dX3_countAt_15 rfl hw.1 ?_
      have hw := hw.2
      refine am_goto 20 dX3_countAt_16 (by decide) ?_
      exact am_ireturn dX3_countAt_20 rfl ⟨_, rfl, rfl, hw⟩

def wX3_locomotiveAt (a1 a2 : Int32) (m0 : Mu) (K : Int32 → Prop) : Prop := ((a1 < 0 → K (-11 : Int32)) ∧ (¬ a1 < 0 → (((13 : Int32) ≤ a1 → K (-11 : Int32)) ∧ (¬ (13 : Int32) ≤ a1 → ((a2 < 0 → K (-11 : Int32)) ∧ (¬ a2 < 0 → (vp_in a1 13 ∧ (((m0 2 (a1).toNatClampNeg) ≤ a2 → K (-11 : Int32)) ∧ (¬ (m0 2 (a1).toNatClampNeg) ≤ a2 → ((a2 < (8 : Int32) → (vp_in ((a1 * (8 : Int32)) + a2) 104 ∧ K (m0 3 (((a1 * (8 : Int32)) + a2)).toNatClampNeg))) ∧ (¬ a2 < (8 : Int32) → K (-11 : Int32))))))))))))
set_option maxRecDepth 20000 in
theorem sX3_locomotiveAt {a1 a2 : Int32} {m0 : Mu} {K : Int32 → Prop} (hw : wX3_locomotiveAt a1 a2 m0 K) : am_Met mX3_locomotiveAt [.ref 0, .int a1, .int a2] (fX3 m0) 0 0 (zP (fX3 m0) K) := by
  unfold wX3_locomotiveAt at hw
  refine am_Met.of2 (ls := [some (.ref 0), some (.int a1), some (.int a2)]) pf_X3_locomotiveAt rfl rfl rfl rfl ?_
  refine am_iload_n dX3_locomotiveAt_0 rfl ?_
  refine am_if_lt 30 dX3_locomotiveAt_1 (by decide) (fun c1 => ?_) (fun c1 => ?_)
  · have hw := hw.1 c1
    refine am_bipush dX3_locomotiveAt_30 bc_m11 ?_
    exact am_ireturn dX3_locomotiveAt_32 rfl ⟨_, rfl, rfl, hw⟩
  · have hw := hw.2 c1
    refine am_iload_n dX3_locomotiveAt_4 rfl ?_
    refine am_bipush dX3_locomotiveAt_5 bc_13 ?_
    refine am_icmp_ge 30 dX3_locomotiveAt_7 (by decide) (fun c2 => ?_) (fun c2 => ?_)
    · have hw := hw.1 c2
      refine am_bipush dX3_locomotiveAt_30 bc_m11 ?_
      exact am_ireturn dX3_locomotiveAt_32 rfl ⟨_, rfl, rfl, hw⟩
    · have hw := hw.2 c2
      refine am_iload_n dX3_locomotiveAt_10 rfl ?_
      refine am_if_lt 30 dX3_locomotiveAt_11 (by decide) (fun c3 => ?_) (fun c3 => ?_)
      · have hw := hw.1 c3
        refine am_bipush dX3_locomotiveAt_30 bc_m11 ?_
        exact am_ireturn dX3_locomotiveAt_32 rfl ⟨_, rfl, rfl, hw⟩
      · have hw := hw.2 c3
        refine am_iload_n dX3_locomotiveAt_14 rfl ?_
        refine am_aload_n dX3_locomotiveAt_15 rfl ?_
        refine am_getf dX3_locomotiveAt_16 fl_X3_18 rfl rfl ?_
        refine am_iload_n dX3_locomotiveAt_19 rfl ?_
        refine am_iaload dX3_locomotiveAt_20 rfl hw.1 ?_
        have hw := hw.2
        refine am_icmp_ge 30 dX3_locomotiveAt_21 (by decide) (fun c4 => ?_) (fun c4 => ?_)
        · have hw := hw.1 c4
          refine am_bipush dX3_locomotiveAt_30 bc_m11 ?_
          exact am_ireturn dX3_locomotiveAt_32 rfl ⟨_, rfl, rfl, hw⟩
        · have hw := hw.2 c4
          refine am_iload_n dX3_locomotiveAt_24 rfl ?_
          refine am_bipush dX3_locomotiveAt_25 bc_8 ?_
          refine am_icmp_lt 33 dX3_locomotiveAt_27 (by decide) (fun c5 => ?_) (fun c5 => ?_)
          · have hw := hw.1 c5
            refine am_aload_n dX3_locomotiveAt_33 rfl ?_
            refine am_getf dX3_locomotiveAt_34 fl_X3_21 rfl rfl ?_
            refine am_iload_n dX3_locomotiveAt_37 rfl ?_
            refine am_bipush dX3_locomotiveAt_38 bc_8 ?_
            refine am_imul dX3_locomotiveAt_40 ?_
            refine am_iload_n dX3_locomotiveAt_41 rfl ?_
            refine am_iadd dX3_locomotiveAt_42 ?_
            refine am_iaload dX3_locomotiveAt_43 rfl hw.1 ?_
            have hw := hw.2
            exact am_ireturn dX3_locomotiveAt_44 rfl ⟨_, rfl, rfl, hw⟩
          · have hw := hw.2 c5
            refine am_bipush dX3_locomotiveAt_30 bc_m11 ?_
            exact am_ireturn dX3_locomotiveAt_32 rfl ⟨_, rfl, rfl, hw⟩

def lpX3_indexIn_9 (m0 : Mu) (K : Int32 → Prop)  : Nat → Int32 → Int32 → Int32 → Int32 → Prop
  | 0, _, _, _, _ => False
  | n + 1, v1, v2, v3, v4 => ((v3 ≤ v4 → K (-11 : Int32)) ∧ (¬ v3 ≤ v4 → wX3_locomotiveAt v1 v4 m0 (fun r3 : Int32 => ((r3 = v2 → K v4) ∧ (¬ r3 = v2 → ∀ x5 : Int32, x5 = v4 + (1 : Int32) → lpX3_indexIn_9 m0 K n v1 v2 v3 x5)))))
set_option maxRecDepth 20000 in
theorem slpX3_indexIn_9 {m0 : Mu} {K : Int32 → Prop} : ∀ (n : Nat) (v1 v2 v3 v4 : Int32), lpX3_indexIn_9 m0 K n v1 v2 v3 v4 → am_Ok mX3_indexIn none (zP (fX3 m0) K) 0 0 9 [some (.ref 0), some (.int v1), some (.int v2), some (.int v3), some (.int v4)] [] (fX3 m0) := by
  intro n
  induction n with
  | zero => intro v1 v2 v3 v4 hw; exact False.elim hw
  | succ n ih =>
    intro v1 v2 v3 v4 hw
    unfold lpX3_indexIn_9 at hw
    refine am_iload dX3_indexIn_9 rfl ?_
    refine am_iload_n dX3_indexIn_11 rfl ?_
    refine am_icmp_ge 35 dX3_indexIn_12 (by decide) (fun c2 => ?_) (fun c2 => ?_)
    · have hw := hw.1 c2
      refine am_bipush dX3_indexIn_35 bc_m11 ?_
      exact am_ireturn dX3_indexIn_37 rfl ⟨_, rfl, rfl, hw⟩
    · have hw := hw.2 c2
      refine am_aload_n dX3_indexIn_15 rfl ?_
      refine am_iload_n dX3_indexIn_16 rfl ?_
      refine am_iload dX3_indexIn_17 rfl ?_
      refine am_selfP fam_X3 rfl dX3_indexIn_19 q_X3_indexIn_61 rfl (sX3_locomotiveAt hw) rfl rfl rfl rfl rfl (fun r3 hw => ?_)
      refine am_iload_n dX3_indexIn_22 rfl ?_
      refine am_icmp_ne 29 dX3_indexIn_23 (by decide) (fun c4 => ?_) (fun c4 => ?_)
      · have hw := hw.1 c4
        refine am_iload dX3_indexIn_26 rfl ?_
        exact am_ireturn dX3_indexIn_28 rfl ⟨_, rfl, rfl, hw⟩
      · have hw := hw.2 c4
        refine am_iinc' (lf := fun y9 => [some (.ref 0), some (.int v1), some (.int v2), some (.int v3), some (.int y9)]) dX3_indexIn_29 rfl rfl rfl ic_1 (fun _ => rfl) (fun x5 ex5 => ?_)
        have hw := hw x5 ex5
        refine am_goto 9 dX3_indexIn_32 (by decide) ?_
        refine am_forget (ls' := [some (.ref 0), some (.int v1), some (.int v2), some (.int v3), some (.int x5)]) [true, true, true, true, true] rfl ?_
        exact ih _ _ _ _ hw
def wX3_indexIn (a1 a2 : Int32) (m0 : Mu) (K : Int32 → Prop) : Prop := wX3_countAt a1 m0 (fun r1 : Int32 => (∃ n6 : Nat, lpX3_indexIn_9 m0 K n6 a1 a2 r1 (0 : Int32)))
set_option maxRecDepth 20000 in
theorem sX3_indexIn {a1 a2 : Int32} {m0 : Mu} {K : Int32 → Prop} (hw : wX3_indexIn a1 a2 m0 K) : am_Met mX3_indexIn [.ref 0, .int a1, .int a2] (fX3 m0) 0 0 (zP (fX3 m0) K) := by
  unfold wX3_indexIn at hw
  refine am_Met.of2 (ls := [some (.ref 0), some (.int a1), some (.int a2), none, none]) pf_X3_indexIn rfl rfl rfl rfl ?_
  refine am_aload_n dX3_indexIn_0 rfl ?_
  refine am_iload_n dX3_indexIn_1 rfl ?_
  refine am_selfP fam_X3 rfl dX3_indexIn_2 q_X3_indexIn_58 rfl (sX3_countAt hw) rfl rfl rfl rfl rfl (fun r1 hw => ?_)
  refine am_istore_n' (ls' := [some (.ref 0), some (.int a1), some (.int a2), some (.int r1), none]) dX3_indexIn_5 rfl rfl rfl ?_
  refine am_iconst dX3_indexIn_6 ic_0 ?_
  refine am_istore' (ls' := [some (.ref 0), some (.int a1), some (.int a2), some (.int r1), some (.int (0 : Int32))]) dX3_indexIn_7 rfl rfl rfl ?_
  obtain ⟨n6, hw⟩ := hw
  refine am_forget (ls' := [some (.ref 0), some (.int a1), some (.int a2), some (.int r1), some (.int (0 : Int32))]) [true, true, true, true, true] rfl ?_
  exact slpX3_indexIn_9  n6 _ _ _ _ hw

def lpX3_placeOf_2 (m0 : Mu) (K : Int32 → Prop)  : Nat → Int32 → Int32 → Prop
  | 0, _, _ => False
  | n + 1, v1, v2 => (((13 : Int32) ≤ v2 → K (-11 : Int32)) ∧ (¬ (13 : Int32) ≤ v2 → wX3_indexIn v2 v1 m0 (fun r2 : Int32 => ((r2 = (-11 : Int32) → ∀ x4 : Int32, x4 = v2 + (1 : Int32) → lpX3_placeOf_2 m0 K n v1 x4) ∧ (¬ r2 = (-11 : Int32) → K v2)))))
set_option maxRecDepth 20000 in
theorem slpX3_placeOf_2 {m0 : Mu} {K : Int32 → Prop} : ∀ (n : Nat) (v1 v2 : Int32), lpX3_placeOf_2 m0 K n v1 v2 → am_Ok mX3_placeOf none (zP (fX3 m0) K) 0 0 2 [some (.ref 0), some (.int v1), some (.int v2)] [] (fX3 m0) := by
  intro n
  induction n with
  | zero => intro v1 v2 hw; exact False.elim hw
  | succ n ih =>
    intro v1 v2 hw
    unfold lpX3_placeOf_2 at hw
    refine am_iload_n dX3_placeOf_2 rfl ?_
    refine am_bipush dX3_placeOf_3 bc_13 ?_
    refine am_icmp_ge 27 dX3_placeOf_5 (by decide) (fun c1 => ?_) (fun c1 => ?_)
    · have hw := hw.1 c1
      refine am_bipush dX3_placeOf_27 bc_m11 ?_
      exact am_ireturn dX3_placeOf_29 rfl ⟨_, rfl, rfl, hw⟩
    · have hw := hw.2 c1
      refine am_aload_n dX3_placeOf_8 rfl ?_
      refine am_iload_n dX3_placeOf_9 rfl ?_
      refine am_iload_n dX3_placeOf_10 rfl ?_
      refine am_selfP fam_X3 rfl dX3_placeOf_11 q_X3_placeOf_54 rfl (sX3_indexIn hw) rfl rfl rfl rfl rfl (fun r2 hw => ?_)
      refine am_bipush dX3_placeOf_14 bc_m11 ?_
      refine am_icmp_eq 21 dX3_placeOf_16 (by decide) (fun c3 => ?_) (fun c3 => ?_)
      · have hw := hw.1 c3
        refine am_iinc' (lf := fun y9 => [some (.ref 0), some (.int v1), some (.int y9)]) dX3_placeOf_21 rfl rfl rfl ic_1 (fun _ => rfl) (fun x4 ex4 => ?_)
        have hw := hw x4 ex4
        refine am_goto 2 dX3_placeOf_24 (by decide) ?_
        refine am_forget (ls' := [some (.ref 0), some (.int v1), some (.int x4)]) [true, true, true] rfl ?_
        exact ih _ _ hw
      · have hw := hw.2 c3
        refine am_iload_n dX3_placeOf_19 rfl ?_
        exact am_ireturn dX3_placeOf_20 rfl ⟨_, rfl, rfl, hw⟩
def wX3_placeOf (a1 : Int32) (m0 : Mu) (K : Int32 → Prop) : Prop := (∃ n5 : Nat, lpX3_placeOf_2 m0 K n5 a1 (0 : Int32))
set_option maxRecDepth 20000 in
theorem sX3_placeOf {a1 : Int32} {m0 : Mu} {K : Int32 → Prop} (hw : wX3_placeOf a1 m0 K) : am_Met mX3_placeOf [.ref 0, .int a1] (fX3 m0) 0 0 (zP (fX3 m0) K) := by
  unfold wX3_placeOf at hw
  refine am_Met.of2 (ls := [some (.ref 0), some (.int a1), none]) pf_X3_placeOf rfl rfl rfl rfl ?_
  refine am_iconst dX3_placeOf_0 ic_0 ?_
  refine am_istore_n' (ls' := [some (.ref 0), some (.int a1), some (.int (0 : Int32))]) dX3_placeOf_1 rfl rfl rfl ?_
  obtain ⟨n5, hw⟩ := hw
  refine am_forget (ls' := [some (.ref 0), some (.int a1), some (.int (0 : Int32))]) [true, true, true] rfl ?_
  exact slpX3_placeOf_2  n5 _ _ hw

def lpX3_trackCount_4 (m0 : Mu) (K : Int32 → Prop)  : Nat → Int32 → Int32 → Prop
  | 0, _, _ => False
  | n + 1, v1, v2 => (((12 : Int32) ≤ v2 → K v1) ∧ (¬ (12 : Int32) ≤ v2 → (vp_in v2 13 ∧ (((m0 0 (v2).toNatClampNeg) ≤ 0 → ∀ x3 : Int32, x3 = v2 + (1 : Int32) → lpX3_trackCount_4 m0 K n v1 x3) ∧ (¬ (m0 0 (v2).toNatClampNeg) ≤ 0 → ∀ x4 : Int32, x4 = v1 + (1 : Int32) → ∀ x5 : Int32, x5 = v2 + (1 : Int32) → lpX3_trackCount_4 m0 K n x4 x5)))))
set_option maxRecDepth 20000 in
theorem slpX3_trackCount_4 {m0 : Mu} {K : Int32 → Prop} : ∀ (n : Nat) (v1 v2 : Int32), lpX3_trackCount_4 m0 K n v1 v2 → am_Ok mX3_trackCount none (zP (fX3 m0) K) 0 0 4 [some (.ref 0), some (.int v1), some (.int v2)] [] (fX3 m0) := by
  intro n
  induction n with
  | zero => intro v1 v2 hw; exact False.elim hw
  | succ n ih =>
    intro v1 v2 hw
    unfold lpX3_trackCount_4 at hw
    refine am_iload_n dX3_trackCount_4 rfl ?_
    refine am_bipush dX3_trackCount_5 bc_12 ?_
    refine am_icmp_ge 28 dX3_trackCount_7 (by decide) (fun c1 => ?_) (fun c1 => ?_)
    · have hw := hw.1 c1
      refine am_iload_n dX3_trackCount_28 rfl ?_
      exact am_ireturn dX3_trackCount_29 rfl ⟨_, rfl, rfl, hw⟩
    · have hw := hw.2 c1
      refine am_aload_n dX3_trackCount_10 rfl ?_
      refine am_getf dX3_trackCount_11 fl_X3_9 rfl rfl ?_
      refine am_iload_n dX3_trackCount_14 rfl ?_
      refine am_iaload dX3_trackCount_15 rfl hw.1 ?_
      have hw := hw.2
      refine am_if_le 22 dX3_trackCount_16 (by decide) (fun c2 => ?_) (fun c2 => ?_)
      · have hw := hw.1 c2
        refine am_iinc' (lf := fun y9 => [some (.ref 0), some (.int v1), some (.int y9)]) dX3_trackCount_22 rfl rfl rfl ic_1 (fun _ => rfl) (fun x3 ex3 => ?_)
        have hw := hw x3 ex3
        refine am_goto 4 dX3_trackCount_25 (by decide) ?_
        refine am_forget (ls' := [some (.ref 0), some (.int v1), some (.int x3)]) [true, true, true] rfl ?_
        exact ih _ _ hw
      · have hw := hw.2 c2
        refine am_iinc' (lf := fun y9 => [some (.ref 0), some (.int y9), some (.int v2)]) dX3_trackCount_19 rfl rfl rfl ic_1 (fun _ => rfl) (fun x4 ex4 => ?_)
        have hw := hw x4 ex4
        refine am_iinc' (lf := fun y9 => [some (.ref 0), some (.int x4), some (.int y9)]) dX3_trackCount_22 rfl rfl rfl ic_1 (fun _ => rfl) (fun x5 ex5 => ?_)
        have hw := hw x5 ex5
        refine am_goto 4 dX3_trackCount_25 (by decide) ?_
        refine am_forget (ls' := [some (.ref 0), some (.int x4), some (.int x5)]) [true, true, true] rfl ?_
        exact ih _ _ hw
def wX3_trackCount (m0 : Mu) (K : Int32 → Prop) : Prop := (∃ n6 : Nat, lpX3_trackCount_4 m0 K n6 (0 : Int32) (0 : Int32))
set_option maxRecDepth 20000 in
theorem sX3_trackCount {m0 : Mu} {K : Int32 → Prop} (hw : wX3_trackCount m0 K) : am_Met mX3_trackCount [.ref 0] (fX3 m0) 0 0 (zP (fX3 m0) K) := by
  unfold wX3_trackCount at hw
  refine am_Met.of2 (ls := [some (.ref 0), none, none]) pf_X3_trackCount rfl rfl rfl rfl ?_
  refine am_iconst dX3_trackCount_0 ic_0 ?_
  refine am_istore_n' (ls' := [some (.ref 0), some (.int (0 : Int32)), none]) dX3_trackCount_1 rfl rfl rfl ?_
  refine am_iconst dX3_trackCount_2 ic_0 ?_
  refine am_istore_n' (ls' := [some (.ref 0), some (.int (0 : Int32)), some (.int (0 : Int32))]) dX3_trackCount_3 rfl rfl rfl ?_
  obtain ⟨n6, hw⟩ := hw
  refine am_forget (ls' := [some (.ref 0), some (.int (0 : Int32)), some (.int (0 : Int32))]) [true, true, true] rfl ?_
  exact slpX3_trackCount_4  n6 _ _ hw

def wX3_positionAt (a1 : Int32) (m0 : Mu) (K : Int32 → Prop) : Prop := ((a1 = 0 → K (m0 8 7)) ∧ (¬ a1 = 0 → K (am_rem ((m0 8 7) + (6 : Int32)) (12 : Int32))))
set_option maxRecDepth 20000 in
theorem sX3_positionAt {a1 : Int32} {m0 : Mu} {K : Int32 → Prop} (hw : wX3_positionAt a1 m0 K) : am_Met mX3_positionAt [.ref 0, .int a1] (fX3 m0) 0 0 (zP (fX3 m0) K) := by
  unfold wX3_positionAt at hw
  refine am_Met.of2 (ls := [some (.ref 0), some (.int a1)]) pf_X3_positionAt rfl rfl rfl rfl ?_
  refine am_iload_n dX3_positionAt_0 rfl ?_
  refine am_if_ne 11 dX3_positionAt_1 (by decide) (fun c1 => ?_) (fun c1 => ?_)
  · have hw := hw.1 c1
    refine am_aload_n dX3_positionAt_4 rfl ?_
    refine am_getf dX3_positionAt_5 fl_X3_40 rfl rfl ?_
    refine am_goto 21 dX3_positionAt_8 (by decide) ?_
    exact am_ireturn dX3_positionAt_21 rfl ⟨_, rfl, rfl, hw⟩
  · have hw := hw.2 c1
    refine am_aload_n dX3_positionAt_11 rfl ?_
    refine am_getf dX3_positionAt_12 fl_X3_40 rfl rfl ?_
    refine am_bipush dX3_positionAt_15 bc_6 ?_
    refine am_iadd dX3_positionAt_17 ?_
    refine am_bipush dX3_positionAt_18 bc_12 ?_
    refine am_irem' dX3_positionAt_20 nz_12 ?_
    exact am_ireturn dX3_positionAt_21 rfl ⟨_, rfl, rfl, hw⟩

def wX3_setLength (a1 a2 : Int32) (m0 : Mu) (K : Mu → Prop) : Prop := ((a1 < 0 → K m0) ∧ (¬ a1 < 0 → (((13 : Int32) ≤ a1 → K m0) ∧ (¬ (13 : Int32) ≤ a1 → (vp_in a1 13 ∧ ∀ m3 : Mu, m3 = mu_up m0 0 (a1).toNatClampNeg a2 → K m3)))))
set_option maxRecDepth 20000 in
theorem sX3_setLength {a1 a2 : Int32} {m0 : Mu} {K : Mu → Prop} (hw : wX3_setLength a1 a2 m0 K) : am_Met mX3_setLength [.ref 0, .int a1, .int a2] (fX3 m0) 0 0 (zV fX3 K) := by
  unfold wX3_setLength at hw
  refine am_Met.of2 (ls := [some (.ref 0), some (.int a1), some (.int a2)]) pf_X3_setLength rfl rfl rfl rfl ?_
  refine am_iload_n dX3_setLength_0 rfl ?_
  refine am_if_lt 17 dX3_setLength_1 (by decide) (fun c1 => ?_) (fun c1 => ?_)
  · have hw := hw.1 c1
    exact am_vreturn dX3_setLength_17 rfl ⟨_, rfl, rfl, hw⟩
  · have hw := hw.2 c1
    refine am_iload_n dX3_setLength_4 rfl ?_
    refine am_bipush dX3_setLength_5 bc_13 ?_
    refine am_icmp_ge 17 dX3_setLength_7 (by decide) (fun c2 => ?_) (fun c2 => ?_)
    · have hw := hw.1 c2
      exact am_vreturn dX3_setLength_17 rfl ⟨_, rfl, rfl, hw⟩
    · have hw := hw.2 c2
      refine am_aload_n dX3_setLength_10 rfl ?_
      refine am_getf dX3_setLength_11 fl_X3_9 rfl rfl ?_
      refine am_iload_n dX3_setLength_14 rfl ?_
      refine am_iload_n dX3_setLength_15 rfl ?_
      refine am_iastore' (F := fX3) (m := mu_up m0 0 (a1).toNatClampNeg a2) dX3_setLength_16 rfl hw.1 rfl (fun m3 em3 => ?_)
      have hw := hw.2 m3 em3
      exact am_vreturn dX3_setLength_17 rfl ⟨_, rfl, rfl, hw⟩

def wX3_markDead (a1 a2 : Int32) (m0 : Mu) (K : Mu → Prop) : Prop := wX3_isLocomotive a1 m0 (fun r1 : Int32 => ((r1 = 0 → K m0) ∧ (¬ r1 = 0 → ∀ x3 : Int32, x3 = ((1 : Int32) <<< (a1 &&& 31)) → ((a2 = 0 → ∀ m5 : Mu, m5 = mu_up m0 8 6 ((m0 8 6) &&& (x3 ^^^ (-1 : Int32))) → K m5) ∧ (¬ a2 = 0 → ∀ m6 : Mu, m6 = mu_up m0 8 6 ((m0 8 6) ||| x3) → K m6)))))
set_option maxRecDepth 20000 in
theorem sX3_markDead {a1 a2 : Int32} {m0 : Mu} {K : Mu → Prop} (hw : wX3_markDead a1 a2 m0 K) : am_Met mX3_markDead [.ref 0, .int a1, .int a2] (fX3 m0) 0 0 (zV fX3 K) := by
  unfold wX3_markDead at hw
  refine am_Met.of2 (ls := [some (.ref 0), some (.int a1), some (.int a2), none]) pf_X3_markDead rfl rfl rfl rfl ?_
  refine am_aload_n dX3_markDead_0 rfl ?_
  refine am_iload_n dX3_markDead_1 rfl ?_
  refine am_selfP fam_X3 rfl dX3_markDead_2 q_X3_markDead_43 rfl (sX3_isLocomotive hw) rfl rfl rfl rfl rfl (fun r1 hw => ?_)
  refine am_if_eq 37 dX3_markDead_5 (by decide) (fun c2 => ?_) (fun c2 => ?_)
  · have hw := hw.1 c2
    exact am_vreturn dX3_markDead_37 rfl ⟨_, rfl, rfl, hw⟩
  · have hw := hw.2 c2
    refine am_iconst dX3_markDead_8 ic_1 ?_
    refine am_iload_n dX3_markDead_9 rfl ?_
    refine am_ishl dX3_markDead_10 ?_
    refine am_top (fun x3 ex3 => ?_)
    have hw := hw x3 ex3
    refine am_istore_n' (ls' := [some (.ref 0), some (.int a1), some (.int a2), some (.int x3)]) dX3_markDead_11 rfl rfl rfl ?_
    refine am_aload_n dX3_markDead_12 rfl ?_
    refine am_iload_n dX3_markDead_13 rfl ?_
    refine am_if_eq 26 dX3_markDead_14 (by decide) (fun c4 => ?_) (fun c4 => ?_)
    · have hw := hw.1 c4
      refine am_aload_n dX3_markDead_26 rfl ?_
      refine am_getf dX3_markDead_27 fl_X3_37 rfl rfl ?_
      refine am_iload_n dX3_markDead_30 rfl ?_
      refine am_iconst dX3_markDead_31 ic_m1 ?_
      refine am_ixor dX3_markDead_32 ?_
      refine am_iand dX3_markDead_33 ?_
      refine am_putf' (F := fX3) (m := mu_up m0 8 6 ((m0 8 6) &&& (x3 ^^^ (-1 : Int32)))) dX3_markDead_34 fp_X3_37 rfl rfl rfl (fun m5 em5 => ?_)
      have hw := hw m5 em5
      exact am_vreturn dX3_markDead_37 rfl ⟨_, rfl, rfl, hw⟩
    · have hw := hw.2 c4
      refine am_aload_n dX3_markDead_17 rfl ?_
      refine am_getf dX3_markDead_18 fl_X3_37 rfl rfl ?_
      refine am_iload_n dX3_markDead_21 rfl ?_
      refine am_ior dX3_markDead_22 ?_
      refine am_goto 34 dX3_markDead_23 (by decide) ?_
      refine am_putf' (F := fX3) (m := mu_up m0 8 6 ((m0 8 6) ||| x3)) dX3_markDead_34 fp_X3_37 rfl rfl rfl (fun m6 em6 => ?_)
      have hw := hw m6 em6
      exact am_vreturn dX3_markDead_37 rfl ⟨_, rfl, rfl, hw⟩

def lpX3_putIn_45 (K : Mu → Prop)  : Nat → Int32 → Int32 → Int32 → Int32 → Int32 → Mu → Prop
  | 0, _, _, _, _, _, _ => False
  | n + 1, v1, v2, v3, v5, v6, m0 => ((v6 ≤ v2 → (vp_in (v5 + v2) 104 ∧ ∀ m9 : Mu, m9 = mu_up m0 3 ((v5 + v2)).toNatClampNeg v3 → (vp_in v1 13 ∧ (vp_in v1 13 ∧ ∀ m10 : Mu, m10 = mu_up m9 2 (v1).toNatClampNeg ((m9 2 (v1).toNatClampNeg) + (1 : Int32)) → (vp_in v1 13 ∧ wX3_sizeOf v3 m10 (fun r11 : Int32 => (vp_in v1 13 ∧ ∀ m12 : Mu, m12 = mu_up m10 1 (v1).toNatClampNeg ((m10 1 (v1).toNatClampNeg) + r11) → K m12))))))) ∧ (¬ v6 ≤ v2 → (vp_in ((v5 + v6) - (1 : Int32)) 104 ∧ (vp_in (v5 + v6) 104 ∧ ∀ m13 : Mu, m13 = mu_up m0 3 ((v5 + v6)).toNatClampNeg (m0 3 (((v5 + v6) - (1 : Int32))).toNatClampNeg) → ∀ x14 : Int32, x14 = v6 + (-1 : Int32) → lpX3_putIn_45 K n v1 v2 v3 v5 x14 m13))))
set_option maxRecDepth 20000 in
theorem slpX3_putIn_45 {K : Mu → Prop} : ∀ (n : Nat) (v1 v2 v3 v5 v6 : Int32) (m0 : Mu), lpX3_putIn_45 K n v1 v2 v3 v5 v6 m0 → am_Ok mX3_putIn none (zV fX3 K) 0 0 45 [some (.ref 0), some (.int v1), some (.int v2), some (.int v3), none, some (.int v5), some (.int v6)] [] (fX3 m0) := by
  intro n
  induction n with
  | zero => intro v1 v2 v3 v5 v6 m0 hw; exact False.elim hw
  | succ n ih =>
    intro v1 v2 v3 v5 v6 m0 hw
    unfold lpX3_putIn_45 at hw
    refine am_iload dX3_putIn_45 rfl ?_
    refine am_iload_n dX3_putIn_47 rfl ?_
    refine am_icmp_le 79 dX3_putIn_48 (by decide) (fun c8 => ?_) (fun c8 => ?_)
    · have hw := hw.1 c8
      refine am_aload_n dX3_putIn_79 rfl ?_
      refine am_getf dX3_putIn_80 fl_X3_21 rfl rfl ?_
      refine am_iload dX3_putIn_83 rfl ?_
      refine am_iload_n dX3_putIn_85 rfl ?_
      refine am_iadd dX3_putIn_86 ?_
      refine am_iload_n dX3_putIn_87 rfl ?_
      refine am_iastore' (F := fX3) (m := mu_up m0 3 ((v5 + v2)).toNatClampNeg v3) dX3_putIn_88 rfl hw.1 rfl (fun m9 em9 => ?_)
      have hw := hw.2 m9 em9
      refine am_aload_n dX3_putIn_89 rfl ?_
      refine am_getf dX3_putIn_90 fl_X3_18 rfl rfl ?_
      refine am_iload_n dX3_putIn_93 rfl ?_
      refine am_dup2 dX3_putIn_94 rfl rfl ?_
      refine am_iaload dX3_putIn_95 rfl hw.1 ?_
      have hw := hw.2
      refine am_iconst dX3_putIn_96 ic_1 ?_
      refine am_iadd dX3_putIn_97 ?_
      refine am_iastore' (F := fX3) (m := mu_up m9 2 (v1).toNatClampNeg ((m9 2 (v1).toNatClampNeg) + (1 : Int32))) dX3_putIn_98 rfl hw.1 rfl (fun m10 em10 => ?_)
      have hw := hw.2 m10 em10
      refine am_aload_n dX3_putIn_99 rfl ?_
      refine am_getf dX3_putIn_100 fl_X3_15 rfl rfl ?_
      refine am_iload_n dX3_putIn_103 rfl ?_
      refine am_dup2 dX3_putIn_104 rfl rfl ?_
      refine am_iaload dX3_putIn_105 rfl hw.1 ?_
      have hw := hw.2
      refine am_aload_n dX3_putIn_106 rfl ?_
      refine am_iload_n dX3_putIn_107 rfl ?_
      refine am_selfP fam_X3 rfl dX3_putIn_108 q_X3_putIn_78 rfl (sX3_sizeOf hw) rfl rfl rfl rfl rfl (fun r11 hw => ?_)
      refine am_iadd dX3_putIn_111 ?_
      refine am_iastore' (F := fX3) (m := mu_up m10 1 (v1).toNatClampNeg ((m10 1 (v1).toNatClampNeg) + r11)) dX3_putIn_112 rfl hw.1 rfl (fun m12 em12 => ?_)
      have hw := hw.2 m12 em12
      exact am_vreturn dX3_putIn_113 rfl ⟨_, rfl, rfl, hw⟩
    · have hw := hw.2 c8
      refine am_aload_n dX3_putIn_51 rfl ?_
      refine am_getf dX3_putIn_52 fl_X3_21 rfl rfl ?_
      refine am_iload dX3_putIn_55 rfl ?_
      refine am_iload dX3_putIn_57 rfl ?_
      refine am_iadd dX3_putIn_59 ?_
      refine am_aload_n dX3_putIn_60 rfl ?_
      refine am_getf dX3_putIn_61 fl_X3_21 rfl rfl ?_
      refine am_iload dX3_putIn_64 rfl ?_
      refine am_iload dX3_putIn_66 rfl ?_
      refine am_iadd dX3_putIn_68 ?_
      refine am_iconst dX3_putIn_69 ic_1 ?_
      refine am_isub dX3_putIn_70 ?_
      refine am_iaload dX3_putIn_71 rfl hw.1 ?_
      have hw := hw.2
      refine am_iastore' (F := fX3) (m := mu_up m0 3 ((v5 + v6)).toNatClampNeg (m0 3 (((v5 + v6) - (1 : Int32))).toNatClampNeg)) dX3_putIn_72 rfl hw.1 rfl (fun m13 em13 => ?_)
      have hw := hw.2 m13 em13
      refine am_iinc' (lf := fun y9 => [some (.ref 0), some (.int v1), some (.int v2), some (.int v3), none, some (.int v5), some (.int y9)]) dX3_putIn_73 rfl rfl rfl ic_m1 (fun _ => rfl) (fun x14 ex14 => ?_)
      have hw := hw x14 ex14
      refine am_goto 45 dX3_putIn_76 (by decide) ?_
      refine am_forget (ls' := [some (.ref 0), some (.int v1), some (.int v2), some (.int v3), none, some (.int v5), some (.int x14)]) [true, true, true, true, false, true, true] rfl ?_
      exact ih _ _ _ _ _ _ hw
def wX3_putIn (a1 a2 a3 : Int32) (m0 : Mu) (K : Mu → Prop) : Prop := wX3_countAt a1 m0 (fun r1 : Int32 => ((a1 < 0 → K m0) ∧ (¬ a1 < 0 → (((13 : Int32) ≤ a1 → K m0) ∧ (¬ (13 : Int32) ≤ a1 → ((a2 < 0 → K m0) ∧ (¬ a2 < 0 → ((r1 < a2 → K m0) ∧ (¬ r1 < a2 → ((r1 < (8 : Int32) → ∀ x7 : Int32, x7 = (a1 * (8 : Int32)) → (∃ n15 : Nat, lpX3_putIn_45 K n15 a1 a2 a3 x7 r1 m0)) ∧ (¬ r1 < (8 : Int32) → K m0)))))))))))
set_option maxRecDepth 20000 in
theorem sX3_putIn {a1 a2 a3 : Int32} {m0 : Mu} {K : Mu → Prop} (hw : wX3_putIn a1 a2 a3 m0 K) : am_Met mX3_putIn [.ref 0, .int a1, .int a2, .int a3] (fX3 m0) 0 0 (zV fX3 K) := by
  unfold wX3_putIn at hw
  refine am_Met.of2 (ls := [some (.ref 0), some (.int a1), some (.int a2), some (.int a3), none, none, none]) pf_X3_putIn rfl rfl rfl rfl ?_
  refine am_aload_n dX3_putIn_0 rfl ?_
  refine am_iload_n dX3_putIn_1 rfl ?_
  refine am_selfP fam_X3 rfl dX3_putIn_2 q_X3_putIn_58 rfl (sX3_countAt hw) rfl rfl rfl rfl rfl (fun r1 hw => ?_)
  refine am_istore' (ls' := [some (.ref 0), some (.int a1), some (.int a2), some (.int a3), some (.int r1), none, none]) dX3_putIn_5 rfl rfl rfl ?_
  refine am_iload_n dX3_putIn_7 rfl ?_
  refine am_if_lt 34 dX3_putIn_8 (by decide) (fun c2 => ?_) (fun c2 => ?_)
  · have hw := hw.1 c2
    exact am_vreturn dX3_putIn_34 rfl ⟨_, rfl, rfl, hw⟩
  · have hw := hw.2 c2
    refine am_iload_n dX3_putIn_11 rfl ?_
    refine am_bipush dX3_putIn_12 bc_13 ?_
    refine am_icmp_ge 34 dX3_putIn_14 (by decide) (fun c3 => ?_) (fun c3 => ?_)
    · have hw := hw.1 c3
      exact am_vreturn dX3_putIn_34 rfl ⟨_, rfl, rfl, hw⟩
    · have hw := hw.2 c3
      refine am_iload_n dX3_putIn_17 rfl ?_
      refine am_if_lt 34 dX3_putIn_18 (by decide) (fun c4 => ?_) (fun c4 => ?_)
      · have hw := hw.1 c4
        exact am_vreturn dX3_putIn_34 rfl ⟨_, rfl, rfl, hw⟩
      · have hw := hw.2 c4
        refine am_iload_n dX3_putIn_21 rfl ?_
        refine am_iload dX3_putIn_22 rfl ?_
        refine am_icmp_gt 34 dX3_putIn_24 (by decide) (fun c5 => ?_) (fun c5 => ?_)
        · have hw := hw.1 c5
          exact am_vreturn dX3_putIn_34 rfl ⟨_, rfl, rfl, hw⟩
        · have hw := hw.2 c5
          refine am_iload dX3_putIn_27 rfl ?_
          refine am_bipush dX3_putIn_29 bc_8 ?_
          refine am_icmp_lt 35 dX3_putIn_31 (by decide) (fun c6 => ?_) (fun c6 => ?_)
          · have hw := hw.1 c6
            refine am_iload_n dX3_putIn_35 rfl ?_
            refine am_bipush dX3_putIn_36 bc_8 ?_
            refine am_imul dX3_putIn_38 ?_
            refine am_top (fun x7 ex7 => ?_)
            have hw := hw x7 ex7
            refine am_istore' (ls' := [some (.ref 0), some (.int a1), some (.int a2), some (.int a3), some (.int r1), some (.int x7), none]) dX3_putIn_39 rfl rfl rfl ?_
            refine am_iload dX3_putIn_41 rfl ?_
            refine am_istore' (ls' := [some (.ref 0), some (.int a1), some (.int a2), some (.int a3), some (.int r1), some (.int x7), some (.int r1)]) dX3_putIn_43 rfl rfl rfl ?_
            obtain ⟨n15, hw⟩ := hw
            refine am_forget (ls' := [some (.ref 0), some (.int a1), some (.int a2), some (.int a3), none, some (.int x7), some (.int r1)]) [true, true, true, true, false, true, true] rfl ?_
            exact slpX3_putIn_45  n15 _ _ _ _ _ _ hw
          · have hw := hw.2 c6
            exact am_vreturn dX3_putIn_34 rfl ⟨_, rfl, rfl, hw⟩

def wX3_addFirst (a1 a2 : Int32) (m0 : Mu) (K : Int32 → Mu → Prop) : Prop := ∀ x1 : Int32, x1 = (m0 8 5) → ((x1 < 0 → K (-9 : Int32) m0) ∧ (¬ x1 < 0 → ((x1 < (8 : Int32) → (vp_in x1 8 ∧ ∀ m4 : Mu, m4 = mu_up m0 4 (x1).toNatClampNeg a1 → ∀ m5 : Mu, m5 = mu_up m4 8 5 ((m4 8 5) + (1 : Int32)) → wX3_markDead x1 (0 : Int32) m5 (fun m6 : Mu => wX3_putIn a2 (0 : Int32) x1 m6 (fun m7 : Mu => K x1 m7)))) ∧ (¬ x1 < (8 : Int32) → K (-9 : Int32) m0))))
set_option maxRecDepth 20000 in
theorem sX3_addFirst {a1 a2 : Int32} {m0 : Mu} {K : Int32 → Mu → Prop} (hw : wX3_addFirst a1 a2 m0 K) : am_Met mX3_addFirst [.ref 0, .int a1, .int a2] (fX3 m0) 0 0 (zI fX3 K) := by
  unfold wX3_addFirst at hw
  refine am_Met.of2 (ls := [some (.ref 0), some (.int a1), some (.int a2), none]) pf_X3_addFirst rfl rfl rfl rfl ?_
  refine am_aload_n dX3_addFirst_0 rfl ?_
  refine am_getf dX3_addFirst_1 fl_X3_33 rfl rfl ?_
  refine am_top (fun x1 ex1 => ?_)
  have hw := hw x1 ex1
  refine am_istore_n' (ls' := [some (.ref 0), some (.int a1), some (.int a2), some (.int x1)]) dX3_addFirst_4 rfl rfl rfl ?_
  refine am_iload_n dX3_addFirst_5 rfl ?_
  refine am_if_lt 15 dX3_addFirst_6 (by decide) (fun c2 => ?_) (fun c2 => ?_)
  · have hw := hw.1 c2
    refine am_bipush dX3_addFirst_15 bc_m9 ?_
    exact am_ireturn dX3_addFirst_17 rfl ⟨_, _, rfl, rfl, hw⟩
  · have hw := hw.2 c2
    refine am_iload_n dX3_addFirst_9 rfl ?_
    refine am_bipush dX3_addFirst_10 bc_8 ?_
    refine am_icmp_lt 18 dX3_addFirst_12 (by decide) (fun c3 => ?_) (fun c3 => ?_)
    · have hw := hw.1 c3
      refine am_aload_n dX3_addFirst_18 rfl ?_
      refine am_getf dX3_addFirst_19 fl_X3_24 rfl rfl ?_
      refine am_iload_n dX3_addFirst_22 rfl ?_
      refine am_iload_n dX3_addFirst_23 rfl ?_
      refine am_iastore' (F := fX3) (m := mu_up m0 4 (x1).toNatClampNeg a1) dX3_addFirst_24 rfl hw.1 rfl (fun m4 em4 => ?_)
      have hw := hw.2 m4 em4
      refine am_aload_n dX3_addFirst_25 rfl ?_
      refine am_dup dX3_addFirst_26 rfl ?_
      refine am_getf dX3_addFirst_27 fl_X3_33 rfl rfl ?_
      refine am_iconst dX3_addFirst_30 ic_1 ?_
      refine am_iadd dX3_addFirst_31 ?_
      refine am_putf' (F := fX3) (m := mu_up m4 8 5 ((m4 8 5) + (1 : Int32))) dX3_addFirst_32 fp_X3_33 rfl rfl rfl (fun m5 em5 => ?_)
      have hw := hw m5 em5
      refine am_aload_n dX3_addFirst_35 rfl ?_
      refine am_iload_n dX3_addFirst_36 rfl ?_
      refine am_iconst dX3_addFirst_37 ic_0 ?_
      refine am_selfU fam_X3 rfl dX3_addFirst_38 q_X3_addFirst_64 rfl (sX3_markDead hw) rfl rfl rfl rfl rfl (fun m6 hw => ?_)
      refine am_aload_n dX3_addFirst_41 rfl ?_
      refine am_iload_n dX3_addFirst_42 rfl ?_
      refine am_iconst dX3_addFirst_43 ic_0 ?_
      refine am_iload_n dX3_addFirst_44 rfl ?_
      refine am_selfU fam_X3 rfl dX3_addFirst_45 q_X3_addFirst_68 rfl (sX3_putIn hw) rfl rfl rfl rfl rfl (fun m7 hw => ?_)
      refine am_iload_n dX3_addFirst_48 rfl ?_
      exact am_ireturn dX3_addFirst_49 rfl ⟨_, _, rfl, rfl, hw⟩
    · have hw := hw.2 c3
      refine am_bipush dX3_addFirst_15 bc_m9 ?_
      exact am_ireturn dX3_addFirst_17 rfl ⟨_, _, rfl, rfl, hw⟩

def jnX3_takeOut_73 (K : Int32 → Mu → Prop) (v1 v3 : Int32) (m0 : Mu) : Prop := (vp_in v1 13 ∧ (vp_in v1 13 ∧ ∀ m6 : Mu, m6 = mu_up m0 2 (v1).toNatClampNeg ((m0 2 (v1).toNatClampNeg) - (1 : Int32)) → (vp_in v1 13 ∧ wX3_sizeOf v3 m6 (fun r7 : Int32 => (vp_in v1 13 ∧ ∀ m8 : Mu, m8 = mu_up m6 1 (v1).toNatClampNeg ((m6 1 (v1).toNatClampNeg) - r7) → K v3 m8)))))
set_option maxRecDepth 20000 in
theorem sjnX3_takeOut_73 {m0 : Mu} {K : Int32 → Mu → Prop} {v1 v3 : Int32} (hw : jnX3_takeOut_73 K v1 v3 m0) : am_Ok mX3_takeOut none (zI fX3 K) 0 0 73 [some (.ref 0), some (.int v1), none, some (.int v3), none, none] [] (fX3 m0) := by
  unfold jnX3_takeOut_73 at hw
  refine am_aload_n dX3_takeOut_73 rfl ?_
  refine am_getf dX3_takeOut_74 fl_X3_18 rfl rfl ?_
  refine am_iload_n dX3_takeOut_77 rfl ?_
  refine am_dup2 dX3_takeOut_78 rfl rfl ?_
  refine am_iaload dX3_takeOut_79 rfl hw.1 ?_
  have hw := hw.2
  refine am_iconst dX3_takeOut_80 ic_1 ?_
  refine am_isub dX3_takeOut_81 ?_
  refine am_iastore' (F := fX3) (m := mu_up m0 2 (v1).toNatClampNeg ((m0 2 (v1).toNatClampNeg) - (1 : Int32))) dX3_takeOut_82 rfl hw.1 rfl (fun m6 em6 => ?_)
  have hw := hw.2 m6 em6
  refine am_aload_n dX3_takeOut_83 rfl ?_
  refine am_getf dX3_takeOut_84 fl_X3_15 rfl rfl ?_
  refine am_iload_n dX3_takeOut_87 rfl ?_
  refine am_dup2 dX3_takeOut_88 rfl rfl ?_
  refine am_iaload dX3_takeOut_89 rfl hw.1 ?_
  have hw := hw.2
  refine am_aload_n dX3_takeOut_90 rfl ?_
  refine am_iload_n dX3_takeOut_91 rfl ?_
  refine am_selfP fam_X3 rfl dX3_takeOut_92 q_X3_takeOut_78 rfl (sX3_sizeOf hw) rfl rfl rfl rfl rfl (fun r7 hw => ?_)
  refine am_isub dX3_takeOut_95 ?_
  refine am_iastore' (F := fX3) (m := mu_up m6 1 (v1).toNatClampNeg ((m6 1 (v1).toNatClampNeg) - r7)) dX3_takeOut_96 rfl hw.1 rfl (fun m8 em8 => ?_)
  have hw := hw.2 m8 em8
  refine am_iload_n dX3_takeOut_97 rfl ?_
  exact am_ireturn dX3_takeOut_98 rfl ⟨_, _, rfl, rfl, hw⟩
def lpX3_takeOut_27 (K : Int32 → Mu → Prop)  : Nat → Int32 → Int32 → Int32 → Int32 → Mu → Prop
  | 0, _, _, _, _, _ => False
  | n + 1, v1, v3, v4, v5, m0 => (vp_in v1 13 ∧ (((m0 2 (v1).toNatClampNeg) ≤ v5 → jnX3_takeOut_73 K v1 v3 m0) ∧ (¬ (m0 2 (v1).toNatClampNeg) ≤ v5 → (((8 : Int32) ≤ v5 → jnX3_takeOut_73 K v1 v3 m0) ∧ (¬ (8 : Int32) ≤ v5 → (vp_in (v4 + v5) 104 ∧ (vp_in ((v4 + v5) - (1 : Int32)) 104 ∧ ∀ m10 : Mu, m10 = mu_up m0 3 (((v4 + v5) - (1 : Int32))).toNatClampNeg (m0 3 ((v4 + v5)).toNatClampNeg) → ∀ x11 : Int32, x11 = v5 + (1 : Int32) → lpX3_takeOut_27 K n v1 v3 v4 x11 m10)))))))
set_option maxRecDepth 20000 in
theorem slpX3_takeOut_27 {K : Int32 → Mu → Prop} : ∀ (n : Nat) (v1 v3 v4 v5 : Int32) (m0 : Mu), lpX3_takeOut_27 K n v1 v3 v4 v5 m0 → am_Ok mX3_takeOut none (zI fX3 K) 0 0 27 [some (.ref 0), some (.int v1), none, some (.int v3), some (.int v4), some (.int v5)] [] (fX3 m0) := by
  intro n
  induction n with
  | zero => intro v1 v3 v4 v5 m0 hw; exact False.elim hw
  | succ n ih =>
    intro v1 v3 v4 v5 m0 hw
    unfold lpX3_takeOut_27 at hw
    refine am_iload dX3_takeOut_27 rfl ?_
    refine am_aload_n dX3_takeOut_29 rfl ?_
    refine am_getf dX3_takeOut_30 fl_X3_18 rfl rfl ?_
    refine am_iload_n dX3_takeOut_33 rfl ?_
    refine am_iaload dX3_takeOut_34 rfl hw.1 ?_
    have hw := hw.2
    refine am_icmp_ge 73 dX3_takeOut_35 (by decide) (fun c5 => ?_) (fun c5 => ?_)
    · have hw := hw.1 c5
      refine am_forget (ls' := [some (.ref 0), some (.int v1), none, some (.int v3), none, none]) [true, true, false, true, false, false] rfl ?_
      exact sjnX3_takeOut_73  hw
    · have hw := hw.2 c5
      refine am_iload dX3_takeOut_38 rfl ?_
      refine am_bipush dX3_takeOut_40 bc_8 ?_
      refine am_icmp_ge 73 dX3_takeOut_42 (by decide) (fun c9 => ?_) (fun c9 => ?_)
      · have hw := hw.1 c9
        refine am_forget (ls' := [some (.ref 0), some (.int v1), none, some (.int v3), none, none]) [true, true, false, true, false, false] rfl ?_
        exact sjnX3_takeOut_73  hw
      · have hw := hw.2 c9
        refine am_aload_n dX3_takeOut_45 rfl ?_
        refine am_getf dX3_takeOut_46 fl_X3_21 rfl rfl ?_
        refine am_iload dX3_takeOut_49 rfl ?_
        refine am_iload dX3_takeOut_51 rfl ?_
        refine am_iadd dX3_takeOut_53 ?_
        refine am_iconst dX3_takeOut_54 ic_1 ?_
        refine am_isub dX3_takeOut_55 ?_
        refine am_aload_n dX3_takeOut_56 rfl ?_
        refine am_getf dX3_takeOut_57 fl_X3_21 rfl rfl ?_
        refine am_iload dX3_takeOut_60 rfl ?_
        refine am_iload dX3_takeOut_62 rfl ?_
        refine am_iadd dX3_takeOut_64 ?_
        refine am_iaload dX3_takeOut_65 rfl hw.1 ?_
        have hw := hw.2
        refine am_iastore' (F := fX3) (m := mu_up m0 3 (((v4 + v5) - (1 : Int32))).toNatClampNeg (m0 3 ((v4 + v5)).toNatClampNeg)) dX3_takeOut_66 rfl hw.1 rfl (fun m10 em10 => ?_)
        have hw := hw.2 m10 em10
        refine am_iinc' (lf := fun y9 => [some (.ref 0), some (.int v1), none, some (.int v3), some (.int v4), some (.int y9)]) dX3_takeOut_67 rfl rfl rfl ic_1 (fun _ => rfl) (fun x11 ex11 => ?_)
        have hw := hw x11 ex11
        refine am_goto 27 dX3_takeOut_70 (by decide) ?_
        refine am_forget (ls' := [some (.ref 0), some (.int v1), none, some (.int v3), some (.int v4), some (.int x11)]) [true, true, false, true, true, true] rfl ?_
        exact ih _ _ _ _ _ hw
def wX3_takeOut (a1 a2 : Int32) (m0 : Mu) (K : Int32 → Mu → Prop) : Prop := wX3_locomotiveAt a1 a2 m0 (fun r1 : Int32 => ((r1 = (-11 : Int32) → K (-11 : Int32) m0) ∧ (¬ r1 = (-11 : Int32) → ∀ x3 : Int32, x3 = (a1 * (8 : Int32)) → ∀ x4 : Int32, x4 = (a2 + (1 : Int32)) → (∃ n12 : Nat, lpX3_takeOut_27 K n12 a1 r1 x3 x4 m0))))
set_option maxRecDepth 20000 in
theorem sX3_takeOut {a1 a2 : Int32} {m0 : Mu} {K : Int32 → Mu → Prop} (hw : wX3_takeOut a1 a2 m0 K) : am_Met mX3_takeOut [.ref 0, .int a1, .int a2] (fX3 m0) 0 0 (zI fX3 K) := by
  unfold wX3_takeOut at hw
  refine am_Met.of2 (ls := [some (.ref 0), some (.int a1), some (.int a2), none, none, none]) pf_X3_takeOut rfl rfl rfl rfl ?_
  refine am_aload_n dX3_takeOut_0 rfl ?_
  refine am_iload_n dX3_takeOut_1 rfl ?_
  refine am_iload_n dX3_takeOut_2 rfl ?_
  refine am_selfP fam_X3 rfl dX3_takeOut_3 q_X3_takeOut_61 rfl (sX3_locomotiveAt hw) rfl rfl rfl rfl rfl (fun r1 hw => ?_)
  refine am_istore_n' (ls' := [some (.ref 0), some (.int a1), some (.int a2), some (.int r1), none, none]) dX3_takeOut_6 rfl rfl rfl ?_
  refine am_iload_n dX3_takeOut_7 rfl ?_
  refine am_bipush dX3_takeOut_8 bc_m11 ?_
  refine am_icmp_ne 16 dX3_takeOut_10 (by decide) (fun c2 => ?_) (fun c2 => ?_)
  · have hw := hw.1 c2
    refine am_bipush dX3_takeOut_13 bc_m11 ?_
    exact am_ireturn dX3_takeOut_15 rfl ⟨_, _, rfl, rfl, hw⟩
  · have hw := hw.2 c2
    refine am_iload_n dX3_takeOut_16 rfl ?_
    refine am_bipush dX3_takeOut_17 bc_8 ?_
    refine am_imul dX3_takeOut_19 ?_
    refine am_top (fun x3 ex3 => ?_)
    have hw := hw x3 ex3
    refine am_istore' (ls' := [some (.ref 0), some (.int a1), some (.int a2), some (.int r1), some (.int x3), none]) dX3_takeOut_20 rfl rfl rfl ?_
    refine am_iload_n dX3_takeOut_22 rfl ?_
    refine am_iconst dX3_takeOut_23 ic_1 ?_
    refine am_iadd dX3_takeOut_24 ?_
    refine am_top (fun x4 ex4 => ?_)
    have hw := hw x4 ex4
    refine am_istore' (ls' := [some (.ref 0), some (.int a1), some (.int a2), some (.int r1), some (.int x3), some (.int x4)]) dX3_takeOut_25 rfl rfl rfl ?_
    obtain ⟨n12, hw⟩ := hw
    refine am_forget (ls' := [some (.ref 0), some (.int a1), none, some (.int r1), some (.int x3), some (.int x4)]) [true, true, false, true, true, true] rfl ?_
    exact slpX3_takeOut_27  n12 _ _ _ _ _ hw

def wX3_removeNewest (m0 : Mu) (K : Int32 → Mu → Prop) : Prop := ∀ x1 : Int32, x1 = ((m0 8 5) - (1 : Int32)) → wX3_placeOf x1 m0 (fun r2 : Int32 => wX3_indexIn r2 x1 m0 (fun r3 : Int32 => wX3_takeOut r2 r3 m0 (fun (r4 : Int32) (m5 : Mu) => ∀ m6 : Mu, m6 = mu_up m5 8 5 x1 → K x1 m6)))
set_option maxRecDepth 20000 in
theorem sX3_removeNewest {m0 : Mu} {K : Int32 → Mu → Prop} (hw : wX3_removeNewest m0 K) : am_Met mX3_removeNewest [.ref 0] (fX3 m0) 0 0 (zI fX3 K) := by
  unfold wX3_removeNewest at hw
  refine am_Met.of2 (ls := [some (.ref 0), none, none]) pf_X3_removeNewest rfl rfl rfl rfl ?_
  refine am_aload_n dX3_removeNewest_0 rfl ?_
  refine am_getf dX3_removeNewest_1 fl_X3_33 rfl rfl ?_
  refine am_iconst dX3_removeNewest_4 ic_1 ?_
  refine am_isub dX3_removeNewest_5 ?_
  refine am_top (fun x1 ex1 => ?_)
  have hw := hw x1 ex1
  refine am_istore_n' (ls' := [some (.ref 0), some (.int x1), none]) dX3_removeNewest_6 rfl rfl rfl ?_
  refine am_aload_n dX3_removeNewest_7 rfl ?_
  refine am_iload_n dX3_removeNewest_8 rfl ?_
  refine am_selfP fam_X3 rfl dX3_removeNewest_9 q_X3_removeNewest_72 rfl (sX3_placeOf hw) rfl rfl rfl rfl rfl (fun r2 hw => ?_)
  refine am_istore_n' (ls' := [some (.ref 0), some (.int x1), some (.int r2)]) dX3_removeNewest_12 rfl rfl rfl ?_
  refine am_aload_n dX3_removeNewest_13 rfl ?_
  refine am_iload_n dX3_removeNewest_14 rfl ?_
  refine am_aload_n dX3_removeNewest_15 rfl ?_
  refine am_iload_n dX3_removeNewest_16 rfl ?_
  refine am_iload_n dX3_removeNewest_17 rfl ?_
  refine am_selfP fam_X3 rfl dX3_removeNewest_18 q_X3_removeNewest_54 rfl (sX3_indexIn hw) rfl rfl rfl rfl rfl (fun r3 hw => ?_)
  refine am_selfI fam_X3 rfl dX3_removeNewest_21 q_X3_removeNewest_75 rfl (sX3_takeOut hw) rfl rfl rfl rfl rfl (fun r4 m5 hw => ?_)
  refine am_pop dX3_removeNewest_24 rfl ?_
  refine am_aload_n dX3_removeNewest_25 rfl ?_
  refine am_iload_n dX3_removeNewest_26 rfl ?_
  refine am_putf' (F := fX3) (m := mu_up m5 8 5 x1) dX3_removeNewest_27 fp_X3_33 rfl rfl rfl (fun m6 em6 => ?_)
  have hw := hw m6 em6
  refine am_iload_n dX3_removeNewest_30 rfl ?_
  exact am_ireturn dX3_removeNewest_31 rfl ⟨_, _, rfl, rfl, hw⟩

def wX3_emptyRows (m0 : Mu) (K : Mu → Prop) : Prop := ∀ m1 : Mu, m1 = mu_set m0 2 (am_fill 13 (0 : Int32) (m0 2)) → ∀ m2 : Mu, m2 = mu_set m1 1 (am_fill 13 (0 : Int32) (m1 1)) → K m2
set_option maxRecDepth 20000 in
theorem sX3_emptyRows {m0 : Mu} {K : Mu → Prop} (hw : wX3_emptyRows m0 K) : am_Met mX3_emptyRows [.ref 0] (fX3 m0) 0 0 (zV fX3 K) := by
  unfold wX3_emptyRows at hw
  refine am_Met.of2 (ls := [some (.ref 0)]) pf_X3_emptyRows rfl rfl rfl rfl ?_
  refine am_aload_n dX3_emptyRows_0 rfl ?_
  refine am_getf dX3_emptyRows_1 fl_X3_18 rfl rfl ?_
  refine am_iconst dX3_emptyRows_4 ic_0 ?_
  refine am_fillS 3 dX3_emptyRows_5 q_X3_emptyRows_81 rfl rfl rfl rfl ?_
  refine am_hm (F := fX3) (m := mu_set m0 2 (am_fill 13 (0 : Int32) (m0 2))) rfl (fun m1 em1 => ?_)
  have hw := hw m1 em1
  refine am_aload_n dX3_emptyRows_8 rfl ?_
  refine am_getf dX3_emptyRows_9 fl_X3_15 rfl rfl ?_
  refine am_iconst dX3_emptyRows_12 ic_0 ?_
  refine am_fillS 2 dX3_emptyRows_13 q_X3_emptyRows_81 rfl rfl rfl rfl ?_
  refine am_hm (F := fX3) (m := mu_set m1 1 (am_fill 13 (0 : Int32) (m1 1))) rfl (fun m2 em2 => ?_)
  have hw := hw m2 em2
  exact am_vreturn dX3_emptyRows_16 rfl ⟨_, rfl, rfl, hw⟩

def lpX3_allFit_2 (m0 : Mu) (K : Int32 → Prop)  : Nat → Int32 → Prop
  | 0, _ => False
  | n + 1, v1 => (((13 : Int32) ≤ v1 → K (1 : Int32)) ∧ (¬ (13 : Int32) ≤ v1 → (vp_in v1 13 ∧ (vp_in v1 13 ∧ (((m0 1 (v1).toNatClampNeg) ≤ (m0 0 (v1).toNatClampNeg) → ∀ x3 : Int32, x3 = v1 + (1 : Int32) → lpX3_allFit_2 m0 K n x3) ∧ (¬ (m0 1 (v1).toNatClampNeg) ≤ (m0 0 (v1).toNatClampNeg) → K (0 : Int32)))))))
set_option maxRecDepth 20000 in
theorem slpX3_allFit_2 {m0 : Mu} {K : Int32 → Prop} : ∀ (n : Nat) (v1 : Int32), lpX3_allFit_2 m0 K n v1 → am_Ok mX3_allFit none (zP (fX3 m0) K) 0 0 2 [some (.ref 0), some (.int v1)] [] (fX3 m0) := by
  intro n
  induction n with
  | zero => intro v1 hw; exact False.elim hw
  | succ n ih =>
    intro v1 hw
    unfold lpX3_allFit_2 at hw
    refine am_iload_n dX3_allFit_2 rfl ?_
    refine am_bipush dX3_allFit_3 bc_13 ?_
    refine am_icmp_ge 31 dX3_allFit_5 (by decide) (fun c1 => ?_) (fun c1 => ?_)
    · have hw := hw.1 c1
      refine am_iconst dX3_allFit_31 ic_1 ?_
      exact am_zreturn dX3_allFit_32 rfl rfl ⟨_, rfl, rfl, hw⟩
    · have hw := hw.2 c1
      refine am_aload_n dX3_allFit_8 rfl ?_
      refine am_getf dX3_allFit_9 fl_X3_15 rfl rfl ?_
      refine am_iload_n dX3_allFit_12 rfl ?_
      refine am_iaload dX3_allFit_13 rfl hw.1 ?_
      have hw := hw.2
      refine am_aload_n dX3_allFit_14 rfl ?_
      refine am_getf dX3_allFit_15 fl_X3_9 rfl rfl ?_
      refine am_iload_n dX3_allFit_18 rfl ?_
      refine am_iaload dX3_allFit_19 rfl hw.1 ?_
      have hw := hw.2
      refine am_icmp_le 25 dX3_allFit_20 (by decide) (fun c2 => ?_) (fun c2 => ?_)
      · have hw := hw.1 c2
        refine am_iinc' (lf := fun y9 => [some (.ref 0), some (.int y9)]) dX3_allFit_25 rfl rfl rfl ic_1 (fun _ => rfl) (fun x3 ex3 => ?_)
        have hw := hw x3 ex3
        refine am_goto 2 dX3_allFit_28 (by decide) ?_
        refine am_forget (ls' := [some (.ref 0), some (.int x3)]) [true, true] rfl ?_
        exact ih _ hw
      · have hw := hw.2 c2
        refine am_iconst dX3_allFit_23 ic_0 ?_
        exact am_zreturn dX3_allFit_24 rfl rfl ⟨_, rfl, rfl, hw⟩
def wX3_allFit (m0 : Mu) (K : Int32 → Prop) : Prop := (∃ n4 : Nat, lpX3_allFit_2 m0 K n4 (0 : Int32))
set_option maxRecDepth 20000 in
theorem sX3_allFit {m0 : Mu} {K : Int32 → Prop} (hw : wX3_allFit m0 K) : am_Met mX3_allFit [.ref 0] (fX3 m0) 0 0 (zP (fX3 m0) K) := by
  unfold wX3_allFit at hw
  refine am_Met.of2 (ls := [some (.ref 0), none]) pf_X3_allFit rfl rfl rfl rfl ?_
  refine am_iconst dX3_allFit_0 ic_0 ?_
  refine am_istore_n' (ls' := [some (.ref 0), some (.int (0 : Int32))]) dX3_allFit_1 rfl rfl rfl ?_
  obtain ⟨n4, hw⟩ := hw
  refine am_forget (ls' := [some (.ref 0), some (.int (0 : Int32))]) [true, true] rfl ?_
  exact slpX3_allFit_2  n4 _ hw

def wX3_sourceOf (a1 : Int32) (m0 : Mu) (K : Int32 → Prop) : Prop := (((30 : Int32) ≤ a1 → K (12 : Int32)) ∧ (¬ (30 : Int32) ≤ a1 → wX4_endOf a1 (fun r2 : Int32 => wX3_positionAt r2 m0 (fun r3 : Int32 => K r3))))
set_option maxRecDepth 20000 in
theorem sX3_sourceOf {a1 : Int32} {m0 : Mu} {K : Int32 → Prop} (hw : wX3_sourceOf a1 m0 K) : am_Met mX3_sourceOf [.ref 0, .int a1] (fX3 m0) 0 0 (zP (fX3 m0) K) := by
  unfold wX3_sourceOf at hw
  refine am_Met.of2 (ls := [some (.ref 0), some (.int a1)]) pf_X3_sourceOf rfl rfl rfl rfl ?_
  refine am_iload_n dX3_sourceOf_0 rfl ?_
  refine am_bipush dX3_sourceOf_1 bc_30 ?_
  refine am_icmp_ge 17 dX3_sourceOf_3 (by decide) (fun c1 => ?_) (fun c1 => ?_)
  · have hw := hw.1 c1
    refine am_bipush dX3_sourceOf_17 bc_12 ?_
    exact am_ireturn dX3_sourceOf_19 rfl ⟨_, rfl, rfl, hw⟩
  · have hw := hw.2 c1
    refine am_aload_n dX3_sourceOf_6 rfl ?_
    refine am_iload_n dX3_sourceOf_7 rfl ?_
    refine am_stS dX3_sourceOf_8 q_X3_sourceOf_87 (sX4_endOf hw) rfl rfl rfl rfl (fun r2 hw => ?_)
    refine am_selfP fam_X3 rfl dX3_sourceOf_11 q_X3_sourceOf_90 rfl (sX3_positionAt hw) rfl rfl rfl rfl rfl (fun r3 hw => ?_)
    refine am_goto 19 dX3_sourceOf_14 (by decide) ?_
    exact am_ireturn dX3_sourceOf_19 rfl ⟨_, rfl, rfl, hw⟩

def wX3_targetOf (a1 : Int32) (m0 : Mu) (K : Int32 → Prop) : Prop := (((30 : Int32) ≤ a1 → wX4_endOf a1 (fun r2 : Int32 => wX3_positionAt r2 m0 (fun r3 : Int32 => K r3))) ∧ (¬ (30 : Int32) ≤ a1 → K (12 : Int32)))
set_option maxRecDepth 20000 in
theorem sX3_targetOf {a1 : Int32} {m0 : Mu} {K : Int32 → Prop} (hw : wX3_targetOf a1 m0 K) : am_Met mX3_targetOf [.ref 0, .int a1] (fX3 m0) 0 0 (zP (fX3 m0) K) := by
  unfold wX3_targetOf at hw
  refine am_Met.of2 (ls := [some (.ref 0), some (.int a1)]) pf_X3_targetOf rfl rfl rfl rfl ?_
  refine am_iload_n dX3_targetOf_0 rfl ?_
  refine am_bipush dX3_targetOf_1 bc_30 ?_
  refine am_icmp_ge 11 dX3_targetOf_3 (by decide) (fun c1 => ?_) (fun c1 => ?_)
  · have hw := hw.1 c1
    refine am_aload_n dX3_targetOf_11 rfl ?_
    refine am_iload_n dX3_targetOf_12 rfl ?_
    refine am_stS dX3_targetOf_13 q_X3_targetOf_87 (sX4_endOf hw) rfl rfl rfl rfl (fun r2 hw => ?_)
    refine am_selfP fam_X3 rfl dX3_targetOf_16 q_X3_targetOf_90 rfl (sX3_positionAt hw) rfl rfl rfl rfl rfl (fun r3 hw => ?_)
    exact am_ireturn dX3_targetOf_19 rfl ⟨_, rfl, rfl, hw⟩
  · have hw := hw.2 c1
    refine am_bipush dX3_targetOf_6 bc_12 ?_
    refine am_goto 19 dX3_targetOf_8 (by decide) ?_
    exact am_ireturn dX3_targetOf_19 rfl ⟨_, rfl, rfl, hw⟩

def jnX3_movementError_75 (m0 : Mu) (K : Int32 → Prop) (X0 : Int32 → Int32 → Int32 → Int32 → Int32 → Int32 → Int32 → Prop) (v1 v2 v3 v4 v5 v6 v7 u0 u1 : Int32) : Prop := wX3_locomotiveAt u1 u0 m0 (fun r14 : Int32 => wX3_sizeOf r14 m0 (fun r15 : Int32 => ∀ x16 : Int32, x16 = (v5 + r15) → ((v6 = 0 → wX3_isAlive r14 m0 (fun r18 : Int32 => ((r18 = 0 → ∀ x20 : Int32, x20 = v7 + (1 : Int32) → X0 v1 v2 v3 v4 x16 (0 : Int32) x20) ∧ (¬ r18 = 0 → ∀ x21 : Int32, x21 = v7 + (1 : Int32) → X0 v1 v2 v3 v4 x16 (1 : Int32) x21)))) ∧ (¬ v6 = 0 → ∀ x22 : Int32, x22 = v7 + (1 : Int32) → X0 v1 v2 v3 v4 x16 (1 : Int32) x22))))
set_option maxRecDepth 20000 in
theorem sjnX3_movementError_75 {m0 : Mu} {K : Int32 → Prop} {X0 : Int32 → Int32 → Int32 → Int32 → Int32 → Int32 → Int32 → Prop} (hX0 : ∀ (a0 a1 a2 a3 a4 a5 a6 : Int32), X0 a0 a1 a2 a3 a4 a5 a6 → am_Ok mX3_movementError none (zP (fX3 m0) K) 0 0 49 [some (.ref 0), some (.int a0), some (.int a1), some (.int a2), some (.int a3), some (.int a4), some (.int a5), some (.int a6), none] [] (fX3 m0)) {v1 v2 v3 v4 v5 v6 v7 u0 u1 : Int32} (hw : jnX3_movementError_75 m0 K X0 v1 v2 v3 v4 v5 v6 v7 u0 u1) : am_Ok mX3_movementError none (zP (fX3 m0) K) 0 0 75 [some (.ref 0), some (.int v1), some (.int v2), some (.int v3), some (.int v4), some (.int v5), some (.int v6), some (.int v7), none] [.int u0, .int u1, .ref 0] (fX3 m0) := by
  unfold jnX3_movementError_75 at hw
  refine am_selfP fam_X3 rfl dX3_movementError_75 q_X3_movementError_61 rfl (sX3_locomotiveAt hw) rfl rfl rfl rfl rfl (fun r14 hw => ?_)
  refine am_istore' (ls' := [some (.ref 0), some (.int v1), some (.int v2), some (.int v3), some (.int v4), some (.int v5), some (.int v6), some (.int v7), some (.int r14)]) dX3_movementError_78 rfl rfl rfl ?_
  refine am_iload dX3_movementError_80 rfl ?_
  refine am_aload_n dX3_movementError_82 rfl ?_
  refine am_iload dX3_movementError_83 rfl ?_
  refine am_selfP fam_X3 rfl dX3_movementError_85 q_X3_movementError_78 rfl (sX3_sizeOf hw) rfl rfl rfl rfl rfl (fun r15 hw => ?_)
  refine am_iadd dX3_movementError_88 ?_
  refine am_top (fun x16 ex16 => ?_)
  have hw := hw x16 ex16
  refine am_istore' (ls' := [some (.ref 0), some (.int v1), some (.int v2), some (.int v3), some (.int v4), some (.int x16), some (.int v6), some (.int v7), some (.int r14)]) dX3_movementError_89 rfl rfl rfl ?_
  refine am_iload dX3_movementError_91 rfl ?_
  refine am_if_ne 105 dX3_movementError_93 (by decide) (fun c17 => ?_) (fun c17 => ?_)
  · have hw := hw.1 c17
    refine am_aload_n dX3_movementError_96 rfl ?_
    refine am_iload dX3_movementError_97 rfl ?_
    refine am_selfP fam_X3 rfl dX3_movementError_99 q_X3_movementError_96 rfl (sX3_isAlive hw) rfl rfl rfl rfl rfl (fun r18 hw => ?_)
    refine am_if_eq 109 dX3_movementError_102 (by decide) (fun c19 => ?_) (fun c19 => ?_)
    · have hw := hw.1 c19
      refine am_iconst dX3_movementError_109 ic_0 ?_
      refine am_istore' (ls' := [some (.ref 0), some (.int v1), some (.int v2), some (.int v3), some (.int v4), some (.int x16), some (.int (0 : Int32)), some (.int v7), some (.int r14)]) dX3_movementError_110 rfl rfl rfl ?_
      refine am_iinc' (lf := fun y9 => [some (.ref 0), some (.int v1), some (.int v2), some (.int v3), some (.int v4), some (.int x16), some (.int (0 : Int32)), some (.int y9), some (.int r14)]) dX3_movementError_112 rfl rfl rfl ic_1 (fun _ => rfl) (fun x20 ex20 => ?_)
      have hw := hw x20 ex20
      refine am_goto 49 dX3_movementError_115 (by decide) ?_
      refine am_forget (ls' := [some (.ref 0), some (.int v1), some (.int v2), some (.int v3), some (.int v4), some (.int x16), some (.int (0 : Int32)), some (.int x20), none]) [true, true, true, true, true, true, true, true, false] rfl ?_
      exact hX0 _ _ _ _ _ _ _ hw
    · have hw := hw.2 c19
      refine am_iconst dX3_movementError_105 ic_1 ?_
      refine am_goto 110 dX3_movementError_106 (by decide) ?_
      refine am_istore' (ls' := [some (.ref 0), some (.int v1), some (.int v2), some (.int v3), some (.int v4), some (.int x16), some (.int (1 : Int32)), some (.int v7), some (.int r14)]) dX3_movementError_110 rfl rfl rfl ?_
      refine am_iinc' (lf := fun y9 => [some (.ref 0), some (.int v1), some (.int v2), some (.int v3), some (.int v4), some (.int x16), some (.int (1 : Int32)), some (.int y9), some (.int r14)]) dX3_movementError_112 rfl rfl rfl ic_1 (fun _ => rfl) (fun x21 ex21 => ?_)
      have hw := hw x21 ex21
      refine am_goto 49 dX3_movementError_115 (by decide) ?_
      refine am_forget (ls' := [some (.ref 0), some (.int v1), some (.int v2), some (.int v3), some (.int v4), some (.int x16), some (.int (1 : Int32)), some (.int x21), none]) [true, true, true, true, true, true, true, true, false] rfl ?_
      exact hX0 _ _ _ _ _ _ _ hw
  · have hw := hw.2 c17
    refine am_iconst dX3_movementError_105 ic_1 ?_
    refine am_goto 110 dX3_movementError_106 (by decide) ?_
    refine am_istore' (ls' := [some (.ref 0), some (.int v1), some (.int v2), some (.int v3), some (.int v4), some (.int x16), some (.int (1 : Int32)), some (.int v7), some (.int r14)]) dX3_movementError_110 rfl rfl rfl ?_
    refine am_iinc' (lf := fun y9 => [some (.ref 0), some (.int v1), some (.int v2), some (.int v3), some (.int v4), some (.int x16), some (.int (1 : Int32)), some (.int y9), some (.int r14)]) dX3_movementError_112 rfl rfl rfl ic_1 (fun _ => rfl) (fun x22 ex22 => ?_)
    have hw := hw x22 ex22
    refine am_goto 49 dX3_movementError_115 (by decide) ?_
    refine am_forget (ls' := [some (.ref 0), some (.int v1), some (.int v2), some (.int v3), some (.int v4), some (.int x16), some (.int (1 : Int32)), some (.int x22), none]) [true, true, true, true, true, true, true, true, false] rfl ?_
    exact hX0 _ _ _ _ _ _ _ hw
def lpX3_movementError_49 (m0 : Mu) (K : Int32 → Prop)  : Nat → Int32 → Int32 → Int32 → Int32 → Int32 → Int32 → Int32 → Prop
  | 0, _, _, _, _, _, _, _ => False
  | n + 1, v1, v2, v3, v4, v5, v6, v7 => ((v2 ≤ v7 → ((v6 = 0 → K (-7 : Int32)) ∧ (¬ v6 = 0 → wX3_targetOf v1 m0 (fun r10 : Int32 => wX3_freeAt r10 m0 (fun r11 : Int32 => ((v5 ≤ r11 → K (0 : Int32)) ∧ (¬ v5 ≤ r11 → K (-8 : Int32)))))))) ∧ (¬ v2 ≤ v7 → ((v1 = (40 : Int32) → jnX3_movementError_75 m0 K (fun a0 a1 a2 a3 a4 a5 a6 => lpX3_movementError_49 m0 K n a0 a1 a2 a3 a4 a5 a6) v1 v2 v3 v4 v5 v6 v7 ((v4 - (1 : Int32)) - v7) v3) ∧ (¬ v1 = (40 : Int32) → jnX3_movementError_75 m0 K (fun a0 a1 a2 a3 a4 a5 a6 => lpX3_movementError_49 m0 K n a0 a1 a2 a3 a4 a5 a6) v1 v2 v3 v4 v5 v6 v7 v7 v3))))
set_option maxRecDepth 20000 in
theorem slpX3_movementError_49 {m0 : Mu} {K : Int32 → Prop} : ∀ (n : Nat) (v1 v2 v3 v4 v5 v6 v7 : Int32), lpX3_movementError_49 m0 K n v1 v2 v3 v4 v5 v6 v7 → am_Ok mX3_movementError none (zP (fX3 m0) K) 0 0 49 [some (.ref 0), some (.int v1), some (.int v2), some (.int v3), some (.int v4), some (.int v5), some (.int v6), some (.int v7), none] [] (fX3 m0) := by
  intro n
  induction n with
  | zero => intro v1 v2 v3 v4 v5 v6 v7 hw; exact False.elim hw
  | succ n ih =>
    intro v1 v2 v3 v4 v5 v6 v7 hw
    unfold lpX3_movementError_49 at hw
    refine am_iload dX3_movementError_49 rfl ?_
    refine am_iload_n dX3_movementError_51 rfl ?_
    refine am_icmp_ge 118 dX3_movementError_52 (by decide) (fun c8 => ?_) (fun c8 => ?_)
    · have hw := hw.1 c8
      refine am_iload dX3_movementError_118 rfl ?_
      refine am_if_ne 126 dX3_movementError_120 (by decide) (fun c9 => ?_) (fun c9 => ?_)
      · have hw := hw.1 c9
        refine am_bipush dX3_movementError_123 bc_m7 ?_
        exact am_ireturn dX3_movementError_125 rfl ⟨_, rfl, rfl, hw⟩
      · have hw := hw.2 c9
        refine am_iload dX3_movementError_126 rfl ?_
        refine am_aload_n dX3_movementError_128 rfl ?_
        refine am_aload_n dX3_movementError_129 rfl ?_
        refine am_iload_n dX3_movementError_130 rfl ?_
        refine am_selfP fam_X3 rfl dX3_movementError_131 q_X3_movementError_99 rfl (sX3_targetOf hw) rfl rfl rfl rfl rfl (fun r10 hw => ?_)
        refine am_selfP fam_X3 rfl dX3_movementError_134 q_X3_movementError_102 rfl (sX3_freeAt hw) rfl rfl rfl rfl rfl (fun r11 hw => ?_)
        refine am_icmp_le 145 dX3_movementError_137 (by decide) (fun c12 => ?_) (fun c12 => ?_)
        · have hw := hw.1 c12
          refine am_iconst dX3_movementError_145 ic_0 ?_
          exact am_ireturn dX3_movementError_146 rfl ⟨_, rfl, rfl, hw⟩
        · have hw := hw.2 c12
          refine am_bipush dX3_movementError_140 bc_m8 ?_
          refine am_goto 146 dX3_movementError_142 (by decide) ?_
          exact am_ireturn dX3_movementError_146 rfl ⟨_, rfl, rfl, hw⟩
    · have hw := hw.2 c8
      refine am_aload_n dX3_movementError_55 rfl ?_
      refine am_iload_n dX3_movementError_56 rfl ?_
      refine am_iload_n dX3_movementError_57 rfl ?_
      refine am_bipush dX3_movementError_58 bc_40 ?_
      refine am_icmp_ne 73 dX3_movementError_60 (by decide) (fun c13 => ?_) (fun c13 => ?_)
      · have hw := hw.1 c13
        refine am_iload dX3_movementError_63 rfl ?_
        refine am_iconst dX3_movementError_65 ic_1 ?_
        refine am_isub dX3_movementError_66 ?_
        refine am_iload dX3_movementError_67 rfl ?_
        refine am_isub dX3_movementError_69 ?_
        refine am_goto 75 dX3_movementError_70 (by decide) ?_
        refine am_forget (ls' := [some (.ref 0), some (.int v1), some (.int v2), some (.int v3), some (.int v4), some (.int v5), some (.int v6), some (.int v7), none]) [true, true, true, true, true, true, true, true, false] rfl ?_
        exact sjnX3_movementError_75 (fun a0 a1 a2 a3 a4 a5 a6 hq => ih a0 a1 a2 a3 a4 a5 a6 hq) hw
      · have hw := hw.2 c13
        refine am_iload dX3_movementError_73 rfl ?_
        refine am_forget (ls' := [some (.ref 0), some (.int v1), some (.int v2), some (.int v3), some (.int v4), some (.int v5), some (.int v6), some (.int v7), none]) [true, true, true, true, true, true, true, true, false] rfl ?_
        exact sjnX3_movementError_75 (fun a0 a1 a2 a3 a4 a5 a6 hq => ih a0 a1 a2 a3 a4 a5 a6 hq) hw
def wX3_movementError (a1 a2 : Int32) (m0 : Mu) (K : Int32 → Prop) : Prop := wX4_endOf a1 (fun r1 : Int32 => wX3_positionAt r1 m0 (fun r2 : Int32 => wX3_lengthAt r2 m0 (fun r3 : Int32 => ((r3 = 0 → K (-2 : Int32)) ∧ (¬ r3 = 0 → wX3_sourceOf a1 m0 (fun r5 : Int32 => wX3_countAt r5 m0 (fun r6 : Int32 => ((a2 ≤ r6 → (∃ n23 : Nat, lpX3_movementError_49 m0 K n23 a1 a2 r5 r6 (0 : Int32) (0 : Int32) (0 : Int32))) ∧ (¬ a2 ≤ r6 → K (-6 : Int32))))))))))
set_option maxRecDepth 20000 in
theorem sX3_movementError {a1 a2 : Int32} {m0 : Mu} {K : Int32 → Prop} (hw : wX3_movementError a1 a2 m0 K) : am_Met mX3_movementError [.ref 0, .int a1, .int a2] (fX3 m0) 0 0 (zP (fX3 m0) K) := by
  unfold wX3_movementError at hw
  refine am_Met.of2 (ls := [some (.ref 0), some (.int a1), some (.int a2), none, none, none, none, none, none]) pf_X3_movementError rfl rfl rfl rfl ?_
  refine am_aload_n dX3_movementError_0 rfl ?_
  refine am_aload_n dX3_movementError_1 rfl ?_
  refine am_iload_n dX3_movementError_2 rfl ?_
  refine am_stS dX3_movementError_3 q_X3_movementError_87 (sX4_endOf hw) rfl rfl rfl rfl (fun r1 hw => ?_)
  refine am_selfP fam_X3 rfl dX3_movementError_6 q_X3_movementError_90 rfl (sX3_positionAt hw) rfl rfl rfl rfl rfl (fun r2 hw => ?_)
  refine am_selfP fam_X3 rfl dX3_movementError_9 q_X3_movementError_47 rfl (sX3_lengthAt hw) rfl rfl rfl rfl rfl (fun r3 hw => ?_)
  refine am_if_ne 18 dX3_movementError_12 (by decide) (fun c4 => ?_) (fun c4 => ?_)
  · have hw := hw.1 c4
    refine am_bipush dX3_movementError_15 bc_m2 ?_
    exact am_ireturn dX3_movementError_17 rfl ⟨_, rfl, rfl, hw⟩
  · have hw := hw.2 c4
    refine am_aload_n dX3_movementError_18 rfl ?_
    refine am_iload_n dX3_movementError_19 rfl ?_
    refine am_selfP fam_X3 rfl dX3_movementError_20 q_X3_movementError_93 rfl (sX3_sourceOf hw) rfl rfl rfl rfl rfl (fun r5 hw => ?_)
    refine am_istore_n' (ls' := [some (.ref 0), some (.int a1), some (.int a2), some (.int r5), none, none, none, none, none]) dX3_movementError_23 rfl rfl rfl ?_
    refine am_aload_n dX3_movementError_24 rfl ?_
    refine am_iload_n dX3_movementError_25 rfl ?_
    refine am_selfP fam_X3 rfl dX3_movementError_26 q_X3_movementError_58 rfl (sX3_countAt hw) rfl rfl rfl rfl rfl (fun r6 hw => ?_)
    refine am_istore' (ls' := [some (.ref 0), some (.int a1), some (.int a2), some (.int r5), some (.int r6), none, none, none, none]) dX3_movementError_29 rfl rfl rfl ?_
    refine am_iload dX3_movementError_31 rfl ?_
    refine am_iload_n dX3_movementError_33 rfl ?_
    refine am_icmp_ge 40 dX3_movementError_34 (by decide) (fun c7 => ?_) (fun c7 => ?_)
    · have hw := hw.1 c7
      refine am_iconst dX3_movementError_40 ic_0 ?_
      refine am_istore' (ls' := [some (.ref 0), some (.int a1), some (.int a2), some (.int r5), some (.int r6), some (.int (0 : Int32)), none, none, none]) dX3_movementError_41 rfl rfl rfl ?_
      refine am_iconst dX3_movementError_43 ic_0 ?_
      refine am_istore' (ls' := [some (.ref 0), some (.int a1), some (.int a2), some (.int r5), some (.int r6), some (.int (0 : Int32)), some (.int (0 : Int32)), none, none]) dX3_movementError_44 rfl rfl rfl ?_
      refine am_iconst dX3_movementError_46 ic_0 ?_
      refine am_istore' (ls' := [some (.ref 0), some (.int a1), some (.int a2), some (.int r5), some (.int r6), some (.int (0 : Int32)), some (.int (0 : Int32)), some (.int (0 : Int32)), none]) dX3_movementError_47 rfl rfl rfl ?_
      obtain ⟨n23, hw⟩ := hw
      refine am_forget (ls' := [some (.ref 0), some (.int a1), some (.int a2), some (.int r5), some (.int r6), some (.int (0 : Int32)), some (.int (0 : Int32)), some (.int (0 : Int32)), none]) [true, true, true, true, true, true, true, true, false] rfl ?_
      exact slpX3_movementError_49  n23 _ _ _ _ _ _ _ hw
    · have hw := hw.2 c7
      refine am_bipush dX3_movementError_37 bc_m6 ?_
      exact am_ireturn dX3_movementError_39 rfl ⟨_, rfl, rfl, hw⟩

def jnX3_shift_42 (K : Mu → Prop) (X0 : Int32 → Int32 → Int32 → Int32 → Int32 → Mu → Prop) (v1 v2 v3 v4 v5 u0 u1 : Int32) (m0 : Mu) : Prop := wX3_takeOut u1 u0 m0 (fun (r6 : Int32) (m7 : Mu) => ((v1 = (20 : Int32) → wX3_countAt (12 : Int32) m7 (fun r9 : Int32 => wX3_putIn v4 r9 r6 m7 (fun m10 : Mu => ∀ x11 : Int32, x11 = v5 + (1 : Int32) → X0 v1 v2 v3 v4 x11 m10))) ∧ (¬ v1 = (20 : Int32) → wX3_putIn v4 (0 : Int32) r6 m7 (fun m12 : Mu => ∀ x13 : Int32, x13 = v5 + (1 : Int32) → X0 v1 v2 v3 v4 x13 m12))))
set_option maxRecDepth 20000 in
theorem sjnX3_shift_42 {m0 : Mu} {K : Mu → Prop} {X0 : Int32 → Int32 → Int32 → Int32 → Int32 → Mu → Prop} (hX0 : ∀ (a0 a1 a2 a3 a4 : Int32) (mm : Mu), X0 a0 a1 a2 a3 a4 mm → am_Ok mX3_shift none (zV fX3 K) 0 0 16 [some (.ref 0), some (.int a0), some (.int a1), some (.int a2), some (.int a3), some (.int a4), none] [] (fX3 mm)) {v1 v2 v3 v4 v5 u0 u1 : Int32} (hw : jnX3_shift_42 K X0 v1 v2 v3 v4 v5 u0 u1 m0) : am_Ok mX3_shift none (zV fX3 K) 0 0 42 [some (.ref 0), some (.int v1), some (.int v2), some (.int v3), some (.int v4), some (.int v5), none] [.int u0, .int u1, .ref 0] (fX3 m0) := by
  unfold jnX3_shift_42 at hw
  refine am_selfI fam_X3 rfl dX3_shift_42 q_X3_shift_75 rfl (sX3_takeOut hw) rfl rfl rfl rfl rfl (fun r6 m7 hw => ?_)
  refine am_istore' (ls' := [some (.ref 0), some (.int v1), some (.int v2), some (.int v3), some (.int v4), some (.int v5), some (.int r6)]) dX3_shift_45 rfl rfl rfl ?_
  refine am_aload_n dX3_shift_47 rfl ?_
  refine am_iload dX3_shift_48 rfl ?_
  refine am_iload_n dX3_shift_50 rfl ?_
  refine am_bipush dX3_shift_51 bc_20 ?_
  refine am_icmp_ne 65 dX3_shift_53 (by decide) (fun c8 => ?_) (fun c8 => ?_)
  · have hw := hw.1 c8
    refine am_aload_n dX3_shift_56 rfl ?_
    refine am_bipush dX3_shift_57 bc_12 ?_
    refine am_selfP fam_X3 rfl dX3_shift_59 q_X3_shift_58 rfl (sX3_countAt hw) rfl rfl rfl rfl rfl (fun r9 hw => ?_)
    refine am_goto 66 dX3_shift_62 (by decide) ?_
    refine am_iload dX3_shift_66 rfl ?_
    refine am_selfU fam_X3 rfl dX3_shift_68 q_X3_shift_68 rfl (sX3_putIn hw) rfl rfl rfl rfl rfl (fun m10 hw => ?_)
    refine am_iinc' (lf := fun y9 => [some (.ref 0), some (.int v1), some (.int v2), some (.int v3), some (.int v4), some (.int y9), some (.int r6)]) dX3_shift_71 rfl rfl rfl ic_1 (fun _ => rfl) (fun x11 ex11 => ?_)
    have hw := hw x11 ex11
    refine am_goto 16 dX3_shift_74 (by decide) ?_
    refine am_forget (ls' := [some (.ref 0), some (.int v1), some (.int v2), some (.int v3), some (.int v4), some (.int x11), none]) [true, true, true, true, true, true, false] rfl ?_
    exact hX0 _ _ _ _ _ _ hw
  · have hw := hw.2 c8
    refine am_iconst dX3_shift_65 ic_0 ?_
    refine am_iload dX3_shift_66 rfl ?_
    refine am_selfU fam_X3 rfl dX3_shift_68 q_X3_shift_68 rfl (sX3_putIn hw) rfl rfl rfl rfl rfl (fun m12 hw => ?_)
    refine am_iinc' (lf := fun y9 => [some (.ref 0), some (.int v1), some (.int v2), some (.int v3), some (.int v4), some (.int y9), some (.int r6)]) dX3_shift_71 rfl rfl rfl ic_1 (fun _ => rfl) (fun x13 ex13 => ?_)
    have hw := hw x13 ex13
    refine am_goto 16 dX3_shift_74 (by decide) ?_
    refine am_forget (ls' := [some (.ref 0), some (.int v1), some (.int v2), some (.int v3), some (.int v4), some (.int x13), none]) [true, true, true, true, true, true, false] rfl ?_
    exact hX0 _ _ _ _ _ _ hw
def lpX3_shift_16 (K : Mu → Prop)  : Nat → Int32 → Int32 → Int32 → Int32 → Int32 → Mu → Prop
  | 0, _, _, _, _, _, _ => False
  | n + 1, v1, v2, v3, v4, v5, m0 => ((v2 ≤ v5 → K m0) ∧ (¬ v2 ≤ v5 → ((v1 = (40 : Int32) → wX3_countAt (12 : Int32) m0 (fun r5 : Int32 => jnX3_shift_42 K (fun a0 a1 a2 a3 a4 mm => lpX3_shift_16 K n a0 a1 a2 a3 a4 mm) v1 v2 v3 v4 v5 (r5 - (1 : Int32)) v3 m0)) ∧ (¬ v1 = (40 : Int32) → jnX3_shift_42 K (fun a0 a1 a2 a3 a4 mm => lpX3_shift_16 K n a0 a1 a2 a3 a4 mm) v1 v2 v3 v4 v5 (0 : Int32) v3 m0))))
set_option maxRecDepth 20000 in
theorem slpX3_shift_16 {K : Mu → Prop} : ∀ (n : Nat) (v1 v2 v3 v4 v5 : Int32) (m0 : Mu), lpX3_shift_16 K n v1 v2 v3 v4 v5 m0 → am_Ok mX3_shift none (zV fX3 K) 0 0 16 [some (.ref 0), some (.int v1), some (.int v2), some (.int v3), some (.int v4), some (.int v5), none] [] (fX3 m0) := by
  intro n
  induction n with
  | zero => intro v1 v2 v3 v4 v5 m0 hw; exact False.elim hw
  | succ n ih =>
    intro v1 v2 v3 v4 v5 m0 hw
    unfold lpX3_shift_16 at hw
    refine am_iload dX3_shift_16 rfl ?_
    refine am_iload_n dX3_shift_18 rfl ?_
    refine am_icmp_ge 77 dX3_shift_19 (by decide) (fun c3 => ?_) (fun c3 => ?_)
    · have hw := hw.1 c3
      exact am_vreturn dX3_shift_77 rfl ⟨_, rfl, rfl, hw⟩
    · have hw := hw.2 c3
      refine am_aload_n dX3_shift_22 rfl ?_
      refine am_iload_n dX3_shift_23 rfl ?_
      refine am_iload_n dX3_shift_24 rfl ?_
      refine am_bipush dX3_shift_25 bc_40 ?_
      refine am_icmp_ne 41 dX3_shift_27 (by decide) (fun c4 => ?_) (fun c4 => ?_)
      · have hw := hw.1 c4
        refine am_aload_n dX3_shift_30 rfl ?_
        refine am_bipush dX3_shift_31 bc_12 ?_
        refine am_selfP fam_X3 rfl dX3_shift_33 q_X3_shift_58 rfl (sX3_countAt hw) rfl rfl rfl rfl rfl (fun r5 hw => ?_)
        refine am_iconst dX3_shift_36 ic_1 ?_
        refine am_isub dX3_shift_37 ?_
        refine am_goto 42 dX3_shift_38 (by decide) ?_
        refine am_forget (ls' := [some (.ref 0), some (.int v1), some (.int v2), some (.int v3), some (.int v4), some (.int v5), none]) [true, true, true, true, true, true, false] rfl ?_
        exact sjnX3_shift_42 (fun a0 a1 a2 a3 a4 mm hq => ih a0 a1 a2 a3 a4 mm hq) hw
      · have hw := hw.2 c4
        refine am_iconst dX3_shift_41 ic_0 ?_
        refine am_forget (ls' := [some (.ref 0), some (.int v1), some (.int v2), some (.int v3), some (.int v4), some (.int v5), none]) [true, true, true, true, true, true, false] rfl ?_
        exact sjnX3_shift_42 (fun a0 a1 a2 a3 a4 mm hq => ih a0 a1 a2 a3 a4 mm hq) hw
def wX3_shift (a1 a2 : Int32) (m0 : Mu) (K : Mu → Prop) : Prop := wX3_sourceOf a1 m0 (fun r1 : Int32 => wX3_targetOf a1 m0 (fun r2 : Int32 => (∃ n14 : Nat, lpX3_shift_16 K n14 a1 a2 r1 r2 (0 : Int32) m0)))
set_option maxRecDepth 20000 in
theorem sX3_shift {a1 a2 : Int32} {m0 : Mu} {K : Mu → Prop} (hw : wX3_shift a1 a2 m0 K) : am_Met mX3_shift [.ref 0, .int a1, .int a2] (fX3 m0) 0 0 (zV fX3 K) := by
  unfold wX3_shift at hw
  refine am_Met.of2 (ls := [some (.ref 0), some (.int a1), some (.int a2), none, none, none, none]) pf_X3_shift rfl rfl rfl rfl ?_
  refine am_aload_n dX3_shift_0 rfl ?_
  refine am_iload_n dX3_shift_1 rfl ?_
  refine am_selfP fam_X3 rfl dX3_shift_2 q_X3_shift_93 rfl (sX3_sourceOf hw) rfl rfl rfl rfl rfl (fun r1 hw => ?_)
  refine am_istore_n' (ls' := [some (.ref 0), some (.int a1), some (.int a2), some (.int r1), none, none, none]) dX3_shift_5 rfl rfl rfl ?_
  refine am_aload_n dX3_shift_6 rfl ?_
  refine am_iload_n dX3_shift_7 rfl ?_
  refine am_selfP fam_X3 rfl dX3_shift_8 q_X3_shift_99 rfl (sX3_targetOf hw) rfl rfl rfl rfl rfl (fun r2 hw => ?_)
  refine am_istore' (ls' := [some (.ref 0), some (.int a1), some (.int a2), some (.int r1), some (.int r2), none, none]) dX3_shift_11 rfl rfl rfl ?_
  refine am_iconst dX3_shift_13 ic_0 ?_
  refine am_istore' (ls' := [some (.ref 0), some (.int a1), some (.int a2), some (.int r1), some (.int r2), some (.int (0 : Int32)), none]) dX3_shift_14 rfl rfl rfl ?_
  obtain ⟨n14, hw⟩ := hw
  refine am_forget (ls' := [some (.ref 0), some (.int a1), some (.int a2), some (.int r1), some (.int r2), some (.int (0 : Int32)), none]) [true, true, true, true, true, true, false] rfl ?_
  exact slpX3_shift_16  n14 _ _ _ _ _ _ hw

def wX3_carryOut (a1 : Int32) (m0 : Mu) (K : Mu → Prop) : Prop := ((a1 = 0 → ∀ m2 : Mu, m2 = mu_up m0 8 7 (am_rem ((m0 8 7) + (1 : Int32)) (12 : Int32)) → K m2) ∧ (¬ a1 = 0 → ((a1 = (1 : Int32) → ∀ m4 : Mu, m4 = mu_up m0 8 7 (am_rem (((m0 8 7) + (12 : Int32)) - (1 : Int32)) (12 : Int32)) → K m4) ∧ (¬ a1 = (1 : Int32) → wX3_shift (a1 - (am_rem a1 (10 : Int32))) (am_rem a1 (10 : Int32)) m0 (fun m5 : Mu => K m5)))))
set_option maxRecDepth 20000 in
theorem sX3_carryOut {a1 : Int32} {m0 : Mu} {K : Mu → Prop} (hw : wX3_carryOut a1 m0 K) : am_Met mX3_carryOut [.ref 0, .int a1] (fX3 m0) 0 0 (zV fX3 K) := by
  unfold wX3_carryOut at hw
  refine am_Met.of2 (ls := [some (.ref 0), some (.int a1)]) pf_X3_carryOut rfl rfl rfl rfl ?_
  refine am_iload_n dX3_carryOut_0 rfl ?_
  refine am_if_ne 20 dX3_carryOut_1 (by decide) (fun c1 => ?_) (fun c1 => ?_)
  · have hw := hw.1 c1
    refine am_aload_n dX3_carryOut_4 rfl ?_
    refine am_aload_n dX3_carryOut_5 rfl ?_
    refine am_getf dX3_carryOut_6 fl_X3_40 rfl rfl ?_
    refine am_iconst dX3_carryOut_9 ic_1 ?_
    refine am_iadd dX3_carryOut_10 ?_
    refine am_bipush dX3_carryOut_11 bc_12 ?_
    refine am_irem' dX3_carryOut_13 nz_12 ?_
    refine am_putf' (F := fX3) (m := mu_up m0 8 7 (am_rem ((m0 8 7) + (1 : Int32)) (12 : Int32))) dX3_carryOut_14 fp_X3_40 rfl rfl rfl (fun m2 em2 => ?_)
    have hw := hw m2 em2
    refine am_goto 58 dX3_carryOut_17 (by decide) ?_
    exact am_vreturn dX3_carryOut_58 rfl ⟨_, rfl, rfl, hw⟩
  · have hw := hw.2 c1
    refine am_iload_n dX3_carryOut_20 rfl ?_
    refine am_iconst dX3_carryOut_21 ic_1 ?_
    refine am_icmp_ne 44 dX3_carryOut_22 (by decide) (fun c3 => ?_) (fun c3 => ?_)
    · have hw := hw.1 c3
      refine am_aload_n dX3_carryOut_25 rfl ?_
      refine am_aload_n dX3_carryOut_26 rfl ?_
      refine am_getf dX3_carryOut_27 fl_X3_40 rfl rfl ?_
      refine am_bipush dX3_carryOut_30 bc_12 ?_
      refine am_iadd dX3_carryOut_32 ?_
      refine am_iconst dX3_carryOut_33 ic_1 ?_
      refine am_isub dX3_carryOut_34 ?_
      refine am_bipush dX3_carryOut_35 bc_12 ?_
      refine am_irem' dX3_carryOut_37 nz_12 ?_
      refine am_putf' (F := fX3) (m := mu_up m0 8 7 (am_rem (((m0 8 7) + (12 : Int32)) - (1 : Int32)) (12 : Int32))) dX3_carryOut_38 fp_X3_40 rfl rfl rfl (fun m4 em4 => ?_)
      have hw := hw m4 em4
      refine am_goto 58 dX3_carryOut_41 (by decide) ?_
      exact am_vreturn dX3_carryOut_58 rfl ⟨_, rfl, rfl, hw⟩
    · have hw := hw.2 c3
      refine am_aload_n dX3_carryOut_44 rfl ?_
      refine am_iload_n dX3_carryOut_45 rfl ?_
      refine am_iload_n dX3_carryOut_46 rfl ?_
      refine am_bipush dX3_carryOut_47 bc_10 ?_
      refine am_irem' dX3_carryOut_49 nz_10 ?_
      refine am_isub dX3_carryOut_50 ?_
      refine am_iload_n dX3_carryOut_51 rfl ?_
      refine am_bipush dX3_carryOut_52 bc_10 ?_
      refine am_irem' dX3_carryOut_54 nz_10 ?_
      refine am_selfU fam_X3 rfl dX3_carryOut_55 q_X3_carryOut_105 rfl (sX3_shift hw) rfl rfl rfl rfl rfl (fun m5 hw => ?_)
      exact am_vreturn dX3_carryOut_58 rfl ⟨_, rfl, rfl, hw⟩
