def wX1_forgetGoal (m0 : Mu) (K : Mu → Prop) : Prop := ∀ m1 : Mu, m1 = mu_up m0 13 11 (-11 : Int32) → K m1
set_option maxRecDepth 20000 in
theorem sX1_forgetGoal {m0 : Mu} {K : Mu → Prop} (hw : wX1_forgetGoal m0 K) : am_Met mX1_forgetGoal [.ref 0] (fX1 m0) 0 0 (zV fX1 K) := by
  unfold wX1_forgetGoal at hw
  refine am_Met.of2 (ls := [some (.ref 0)]) pf_X1_forgetGoal rfl rfl rfl rfl ?_
  refine am_aload_n dX1_forgetGoal_0 rfl ?_
  refine am_bipush dX1_forgetGoal_1 bc_m11 ?_
  refine am_putf' (F := fX1) (m := mu_up m0 13 11 (-11 : Int32)) dX1_forgetGoal_3 fp_X1_44 rfl rfl rfl (fun m1 em1 => ?_)
  have hw := hw m1 em1
  exact am_vreturn dX1_forgetGoal_6 rfl ⟨_, rfl, rfl, hw⟩

def lpX1_listPlaces_15 (K : Mu → Prop)  : Nat → Int32 → Mu → Prop
  | 0, _, _ => False
  | n + 1, v1, m0 => (((12 : Int32) ≤ v1 → K m0) ∧ (¬ (12 : Int32) ≤ v1 → wX3_lengthAt v1 (mu_sub m0 20) (fun r4 : Int32 => ((r4 ≤ 0 → ∀ x6 : Int32, x6 = v1 + (1 : Int32) → lpX1_listPlaces_15 K n x6 m0) ∧ (¬ r4 ≤ 0 → (((6 : Int32) ≤ (m0 13 8) → ∀ x8 : Int32, x8 = v1 + (1 : Int32) → lpX1_listPlaces_15 K n x8 m0) ∧ (¬ (6 : Int32) ≤ (m0 13 8) → (vp_in (m0 13 8) 6 ∧ ∀ m9 : Mu, m9 = mu_up m0 1 ((m0 13 8)).toNatClampNeg v1 → ∀ m10 : Mu, m10 = mu_up m9 13 8 ((m9 13 8) + (1 : Int32)) → ∀ x11 : Int32, x11 = v1 + (1 : Int32) → lpX1_listPlaces_15 K n x11 m10))))))))
set_option maxRecDepth 20000 in
theorem slpX1_listPlaces_15 {K : Mu → Prop} : ∀ (n : Nat) (v1 : Int32) (m0 : Mu), lpX1_listPlaces_15 K n v1 m0 → am_Ok mX1_listPlaces none (zV fX1 K) 0 0 15 [some (.ref 0), some (.int v1)] [] (fX1 m0) := by
  intro n
  induction n with
  | zero => intro v1 m0 hw; exact False.elim hw
  | succ n ih =>
    intro v1 m0 hw
    unfold lpX1_listPlaces_15 at hw
    refine am_iload_n dX1_listPlaces_15 rfl ?_
    refine am_bipush dX1_listPlaces_16 bc_12 ?_
    refine am_icmp_ge 67 dX1_listPlaces_18 (by decide) (fun c3 => ?_) (fun c3 => ?_)
    · have hw := hw.1 c3
      exact am_vreturn dX1_listPlaces_67 rfl ⟨_, rfl, rfl, hw⟩
    · have hw := hw.2 c3
      refine am_aload_n dX1_listPlaces_21 rfl ?_
      refine am_getf dX1_listPlaces_22 fl_X1_12 rfl rfl ?_
      refine am_iload_n dX1_listPlaces_25 rfl ?_
      refine am_partP [1, 2, 3, 4, 5, 6] fam_X3 dX1_listPlaces_26 q_X1_listPlaces_112 rfl (sX3_lengthAt hw) rfl rfl rfl rfl rfl rfl rfl rfl rfl (fun r4 hw => ?_)
      refine am_if_le 61 dX1_listPlaces_29 (by decide) (fun c5 => ?_) (fun c5 => ?_)
      · have hw := hw.1 c5
        refine am_iinc' (lf := fun y9 => [some (.ref 0), some (.int y9)]) dX1_listPlaces_61 rfl rfl rfl ic_1 (fun _ => rfl) (fun x6 ex6 => ?_)
        have hw := hw x6 ex6
        refine am_goto 15 dX1_listPlaces_64 (by decide) ?_
        refine am_forget (ls' := [some (.ref 0), some (.int x6)]) [true, true] rfl ?_
        exact ih _ _ hw
      · have hw := hw.2 c5
        refine am_aload_n dX1_listPlaces_32 rfl ?_
        refine am_getf dX1_listPlaces_33 fl_X1_109 rfl rfl ?_
        refine am_bipush dX1_listPlaces_36 bc_6 ?_
        refine am_icmp_ge 61 dX1_listPlaces_38 (by decide) (fun c7 => ?_) (fun c7 => ?_)
        · have hw := hw.1 c7
          refine am_iinc' (lf := fun y9 => [some (.ref 0), some (.int y9)]) dX1_listPlaces_61 rfl rfl rfl ic_1 (fun _ => rfl) (fun x8 ex8 => ?_)
          have hw := hw x8 ex8
          refine am_goto 15 dX1_listPlaces_64 (by decide) ?_
          refine am_forget (ls' := [some (.ref 0), some (.int x8)]) [true, true] rfl ?_
          exact ih _ _ hw
        · have hw := hw.2 c7
          refine am_aload_n dX1_listPlaces_41 rfl ?_
          refine am_getf dX1_listPlaces_42 fl_X1_18 rfl rfl ?_
          refine am_aload_n dX1_listPlaces_45 rfl ?_
          refine am_getf dX1_listPlaces_46 fl_X1_109 rfl rfl ?_
          refine am_iload_n dX1_listPlaces_49 rfl ?_
          refine am_iastore' (F := fX1) (m := mu_up m0 1 ((m0 13 8)).toNatClampNeg v1) dX1_listPlaces_50 rfl hw.1 rfl (fun m9 em9 => ?_)
          have hw := hw.2 m9 em9
          refine am_aload_n dX1_listPlaces_51 rfl ?_
          refine am_dup dX1_listPlaces_52 rfl ?_
          refine am_getf dX1_listPlaces_53 fl_X1_109 rfl rfl ?_
          refine am_iconst dX1_listPlaces_56 ic_1 ?_
          refine am_iadd dX1_listPlaces_57 ?_
          refine am_putf' (F := fX1) (m := mu_up m9 13 8 ((m9 13 8) + (1 : Int32))) dX1_listPlaces_58 fp_X1_109 rfl rfl rfl (fun m10 em10 => ?_)
          have hw := hw m10 em10
          refine am_iinc' (lf := fun y9 => [some (.ref 0), some (.int y9)]) dX1_listPlaces_61 rfl rfl rfl ic_1 (fun _ => rfl) (fun x11 ex11 => ?_)
          have hw := hw x11 ex11
          refine am_goto 15 dX1_listPlaces_64 (by decide) ?_
          refine am_forget (ls' := [some (.ref 0), some (.int x11)]) [true, true] rfl ?_
          exact ih _ _ hw
def wX1_listPlaces (m0 : Mu) (K : Mu → Prop) : Prop := (vp_in (0 : Int32) 6 ∧ ∀ m1 : Mu, m1 = mu_up m0 1 ((0 : Int32)).toNatClampNeg (12 : Int32) → ∀ m2 : Mu, m2 = mu_up m1 13 8 (1 : Int32) → (∃ n12 : Nat, lpX1_listPlaces_15 K n12 (0 : Int32) m2))
set_option maxRecDepth 20000 in
theorem sX1_listPlaces {m0 : Mu} {K : Mu → Prop} (hw : wX1_listPlaces m0 K) : am_Met mX1_listPlaces [.ref 0] (fX1 m0) 0 0 (zV fX1 K) := by
  unfold wX1_listPlaces at hw
  refine am_Met.of2 (ls := [some (.ref 0), none]) pf_X1_listPlaces rfl rfl rfl rfl ?_
  refine am_aload_n dX1_listPlaces_0 rfl ?_
  refine am_getf dX1_listPlaces_1 fl_X1_18 rfl rfl ?_
  refine am_iconst dX1_listPlaces_4 ic_0 ?_
  refine am_bipush dX1_listPlaces_5 bc_12 ?_
  refine am_iastore' (F := fX1) (m := mu_up m0 1 ((0 : Int32)).toNatClampNeg (12 : Int32)) dX1_listPlaces_7 rfl hw.1 rfl (fun m1 em1 => ?_)
  have hw := hw.2 m1 em1
  refine am_aload_n dX1_listPlaces_8 rfl ?_
  refine am_iconst dX1_listPlaces_9 ic_1 ?_
  refine am_putf' (F := fX1) (m := mu_up m1 13 8 (1 : Int32)) dX1_listPlaces_10 fp_X1_109 rfl rfl rfl (fun m2 em2 => ?_)
  have hw := hw m2 em2
  refine am_iconst dX1_listPlaces_13 ic_0 ?_
  refine am_istore_n' (ls' := [some (.ref 0), some (.int (0 : Int32))]) dX1_listPlaces_14 rfl rfl rfl ?_
  obtain ⟨n12, hw⟩ := hw
  refine am_forget (ls' := [some (.ref 0), some (.int (0 : Int32))]) [true, true] rfl ?_
  exact slpX1_listPlaces_15  n12 _ _ hw

def wX1_waysToPut (a1 : Int32) (m0 : Mu) (K : Int32 → Prop) : Prop := wJ9_max_7cf53 (1 : Int32) ((m0 13 8) + a1) (fun r1 : Int32 => K r1)
set_option maxRecDepth 20000 in
theorem sX1_waysToPut {a1 : Int32} {m0 : Mu} {K : Int32 → Prop} (hw : wX1_waysToPut a1 m0 K) : am_Met mX1_waysToPut [.ref 0, .int a1] (fX1 m0) 0 0 (zP (fX1 m0) K) := by
  unfold wX1_waysToPut at hw
  refine am_Met.of2 (ls := [some (.ref 0), some (.int a1)]) pf_X1_waysToPut rfl rfl rfl rfl ?_
  refine am_iconst dX1_waysToPut_0 ic_1 ?_
  refine am_aload_n dX1_waysToPut_1 rfl ?_
  refine am_getf dX1_waysToPut_2 fl_X1_109 rfl rfl ?_
  refine am_iload_n dX1_waysToPut_5 rfl ?_
  refine am_iadd dX1_waysToPut_6 ?_
  refine am_stS dX1_waysToPut_7 q_X1_waysToPut_115 (sJ9_max_7cf53 hw) rfl rfl rfl rfl (fun r1 hw => ?_)
  exact am_ireturn dX1_waysToPut_10 rfl ⟨_, rfl, rfl, hw⟩

def lpX1_putIntoLine_5 (K : Mu → Prop)  : Nat → Int32 → Int32 → Int32 → Int32 → Mu → Prop
  | 0, _, _, _, _, _ => False
  | n + 1, v1, v2, v3, v4, m0 => (((m0 13 8) ≤ v4 → K m0) ∧ (¬ (m0 13 8) ≤ v4 → (((6 : Int32) ≤ v4 → K m0) ∧ (¬ (6 : Int32) ≤ v4 → (vp_in v4 6 ∧ wX3_countAt (m0 1 (v4).toNatClampNeg) (mu_sub m0 20) (fun r3 : Int32 => (((v3 + r3) < v2 → ∀ x5 : Int32, x5 = (v3 + (r3 + (1 : Int32))) → ∀ x6 : Int32, x6 = v4 + (1 : Int32) → lpX1_putIntoLine_5 K n v1 v2 x5 x6 m0) ∧ (¬ (v3 + r3) < v2 → (vp_in v4 6 ∧ wX3_putIn (m0 1 (v4).toNatClampNeg) (v2 - v3) v1 (mu_sub m0 20) (fun k7 : Mu => ∀ m8 : Mu, m8 = mu_put m0 20 9 k7 → K m8))))))))))
set_option maxRecDepth 20000 in
theorem slpX1_putIntoLine_5 {K : Mu → Prop} : ∀ (n : Nat) (v1 v2 v3 v4 : Int32) (m0 : Mu), lpX1_putIntoLine_5 K n v1 v2 v3 v4 m0 → am_Ok mX1_putIntoLine none (zV fX1 K) 0 0 5 [some (.ref 0), some (.int v1), some (.int v2), some (.int v3), some (.int v4), none] [] (fX1 m0) := by
  intro n
  induction n with
  | zero => intro v1 v2 v3 v4 m0 hw; exact False.elim hw
  | succ n ih =>
    intro v1 v2 v3 v4 m0 hw
    unfold lpX1_putIntoLine_5 at hw
    refine am_iload dX1_putIntoLine_5 rfl ?_
    refine am_aload_n dX1_putIntoLine_7 rfl ?_
    refine am_getf dX1_putIntoLine_8 fl_X1_109 rfl rfl ?_
    refine am_icmp_ge 77 dX1_putIntoLine_11 (by decide) (fun c1 => ?_) (fun c1 => ?_)
    · have hw := hw.1 c1
      exact am_vreturn dX1_putIntoLine_77 rfl ⟨_, rfl, rfl, hw⟩
    · have hw := hw.2 c1
      refine am_iload dX1_putIntoLine_14 rfl ?_
      refine am_bipush dX1_putIntoLine_16 bc_6 ?_
      refine am_icmp_ge 77 dX1_putIntoLine_18 (by decide) (fun c2 => ?_) (fun c2 => ?_)
      · have hw := hw.1 c2
        exact am_vreturn dX1_putIntoLine_77 rfl ⟨_, rfl, rfl, hw⟩
      · have hw := hw.2 c2
        refine am_aload_n dX1_putIntoLine_21 rfl ?_
        refine am_getf dX1_putIntoLine_22 fl_X1_12 rfl rfl ?_
        refine am_aload_n dX1_putIntoLine_25 rfl ?_
        refine am_getf dX1_putIntoLine_26 fl_X1_18 rfl rfl ?_
        refine am_iload dX1_putIntoLine_29 rfl ?_
        refine am_iaload dX1_putIntoLine_31 rfl hw.1 ?_
        have hw := hw.2
        refine am_partP [1, 2, 3, 4, 5, 6] fam_X3 dX1_putIntoLine_32 q_X1_putIntoLine_142 rfl (sX3_countAt hw) rfl rfl rfl rfl rfl rfl rfl rfl rfl (fun r3 hw => ?_)
        refine am_istore' (ls' := [some (.ref 0), some (.int v1), some (.int v2), some (.int v3), some (.int v4), some (.int r3)]) dX1_putIntoLine_35 rfl rfl rfl ?_
        refine am_iload_n dX1_putIntoLine_37 rfl ?_
        refine am_iload_n dX1_putIntoLine_38 rfl ?_
        refine am_iload dX1_putIntoLine_39 rfl ?_
        refine am_iadd dX1_putIntoLine_41 ?_
        refine am_icmp_gt 64 dX1_putIntoLine_42 (by decide) (fun c4 => ?_) (fun c4 => ?_)
        · have hw := hw.1 c4
          refine am_iload_n dX1_putIntoLine_64 rfl ?_
          refine am_iload dX1_putIntoLine_65 rfl ?_
          refine am_iconst dX1_putIntoLine_67 ic_1 ?_
          refine am_iadd dX1_putIntoLine_68 ?_
          refine am_iadd dX1_putIntoLine_69 ?_
          refine am_top (fun x5 ex5 => ?_)
          have hw := hw x5 ex5
          refine am_istore_n' (ls' := [some (.ref 0), some (.int v1), some (.int v2), some (.int x5), some (.int v4), some (.int r3)]) dX1_putIntoLine_70 rfl rfl rfl ?_
          refine am_iinc' (lf := fun y9 => [some (.ref 0), some (.int v1), some (.int v2), some (.int x5), some (.int y9), some (.int r3)]) dX1_putIntoLine_71 rfl rfl rfl ic_1 (fun _ => rfl) (fun x6 ex6 => ?_)
          have hw := hw x6 ex6
          refine am_goto 5 dX1_putIntoLine_74 (by decide) ?_
          refine am_forget (ls' := [some (.ref 0), some (.int v1), some (.int v2), some (.int x5), some (.int x6), none]) [true, true, true, true, true, false] rfl ?_
          exact ih _ _ _ _ _ hw
        · have hw := hw.2 c4
          refine am_aload_n dX1_putIntoLine_45 rfl ?_
          refine am_getf dX1_putIntoLine_46 fl_X1_12 rfl rfl ?_
          refine am_aload_n dX1_putIntoLine_49 rfl ?_
          refine am_getf dX1_putIntoLine_50 fl_X1_18 rfl rfl ?_
          refine am_iload dX1_putIntoLine_53 rfl ?_
          refine am_iaload dX1_putIntoLine_55 rfl hw.1 ?_
          have hw := hw.2
          refine am_iload_n dX1_putIntoLine_56 rfl ?_
          refine am_iload_n dX1_putIntoLine_57 rfl ?_
          refine am_isub dX1_putIntoLine_58 ?_
          refine am_iload_n dX1_putIntoLine_59 rfl ?_
          refine am_partU [1, 2, 3, 4, 5, 6] fam_X3 dX1_putIntoLine_60 q_X1_putIntoLine_145 rfl (sX3_putIn hw) rfl rfl rfl rfl rfl rfl rfl rfl rfl (fun k7 hw => ?_)
          refine am_hm (F := fX1) (m := mu_put m0 20 9 k7) rfl (fun m8 em8 => ?_)
          have hw := hw m8 em8
          exact am_vreturn dX1_putIntoLine_63 rfl ⟨_, rfl, rfl, hw⟩
def wX1_putIntoLine (a1 a2 : Int32) (m0 : Mu) (K : Mu → Prop) : Prop := (∃ n9 : Nat, lpX1_putIntoLine_5 K n9 a1 a2 (0 : Int32) (0 : Int32) m0)
set_option maxRecDepth 20000 in
theorem sX1_putIntoLine {a1 a2 : Int32} {m0 : Mu} {K : Mu → Prop} (hw : wX1_putIntoLine a1 a2 m0 K) : am_Met mX1_putIntoLine [.ref 0, .int a1, .int a2] (fX1 m0) 0 0 (zV fX1 K) := by
  unfold wX1_putIntoLine at hw
  refine am_Met.of2 (ls := [some (.ref 0), some (.int a1), some (.int a2), none, none, none]) pf_X1_putIntoLine rfl rfl rfl rfl ?_
  refine am_iconst dX1_putIntoLine_0 ic_0 ?_
  refine am_istore_n' (ls' := [some (.ref 0), some (.int a1), some (.int a2), some (.int (0 : Int32)), none, none]) dX1_putIntoLine_1 rfl rfl rfl ?_
  refine am_iconst dX1_putIntoLine_2 ic_0 ?_
  refine am_istore' (ls' := [some (.ref 0), some (.int a1), some (.int a2), some (.int (0 : Int32)), some (.int (0 : Int32)), none]) dX1_putIntoLine_3 rfl rfl rfl ?_
  obtain ⟨n9, hw⟩ := hw
  refine am_forget (ls' := [some (.ref 0), some (.int a1), some (.int a2), some (.int (0 : Int32)), some (.int (0 : Int32)), none]) [true, true, true, true, true, false] rfl ?_
  exact slpX1_putIntoLine_5  n9 _ _ _ _ _ hw

def lpX1_showRows_14 (K : Mu → Prop)  : Nat → Int32 → Int32 → Mu → Prop
  | 0, _, _, _ => False
  | n + 1, v2, v3, m0 => (((m0 28 5) ≤ v3 → K m0) ∧ (¬ (m0 28 5) ≤ v3 → (((3 : Int32) ≤ v3 → K m0) ∧ (¬ (3 : Int32) ≤ v3 → wX1_waysToPut v3 m0 (fun r6 : Int32 => (¬ r6 = 0 ∧ wX1_putIntoLine v3 (am_rem v2 r6) m0 (fun m7 : Mu => (¬ r6 = 0 ∧ ∀ x8 : Int32, x8 = (v2 / r6) → ∀ x9 : Int32, x9 = v3 + (1 : Int32) → lpX1_showRows_14 K n x8 x9 m7))))))))
set_option maxRecDepth 20000 in
theorem slpX1_showRows_14 {K : Mu → Prop} : ∀ (n : Nat) (v2 v3 : Int32) (m0 : Mu), lpX1_showRows_14 K n v2 v3 m0 → am_Ok mX1_showRows none (zV fX1 K) 0 0 14 [some (.ref 0), none, some (.int v2), some (.int v3), none] [] (fX1 m0) := by
  intro n
  induction n with
  | zero => intro v2 v3 m0 hw; exact False.elim hw
  | succ n ih =>
    intro v2 v3 m0 hw
    unfold lpX1_showRows_14 at hw
    refine am_iload_n dX1_showRows_14 rfl ?_
    refine am_aload_n dX1_showRows_15 rfl ?_
    refine am_getf dX1_showRows_16 fl_X1_12 rfl rfl ?_
    refine am_getf dX1_showRows_19 fl_X1_61 rfl rfl ?_
    refine am_icmp_ge 57 dX1_showRows_22 (by decide) (fun c4 => ?_) (fun c4 => ?_)
    · have hw := hw.1 c4
      exact am_vreturn dX1_showRows_57 rfl ⟨_, rfl, rfl, hw⟩
    · have hw := hw.2 c4
      refine am_iload_n dX1_showRows_25 rfl ?_
      refine am_iconst dX1_showRows_26 ic_3 ?_
      refine am_icmp_ge 57 dX1_showRows_27 (by decide) (fun c5 => ?_) (fun c5 => ?_)
      · have hw := hw.1 c5
        exact am_vreturn dX1_showRows_57 rfl ⟨_, rfl, rfl, hw⟩
      · have hw := hw.2 c5
        refine am_aload_n dX1_showRows_30 rfl ?_
        refine am_iload_n dX1_showRows_31 rfl ?_
        refine am_selfP fam_X1 rfl dX1_showRows_32 q_X1_showRows_64 rfl (sX1_waysToPut hw) rfl rfl rfl rfl rfl (fun r6 hw => ?_)
        refine am_istore' (ls' := [some (.ref 0), none, some (.int v2), some (.int v3), some (.int r6)]) dX1_showRows_35 rfl rfl rfl ?_
        refine am_aload_n dX1_showRows_37 rfl ?_
        refine am_iload_n dX1_showRows_38 rfl ?_
        refine am_iload_n dX1_showRows_39 rfl ?_
        refine am_iload dX1_showRows_40 rfl ?_
        refine am_irem' dX1_showRows_42 hw.1 ?_
        have hw := hw.2
        refine am_selfU fam_X1 rfl dX1_showRows_43 q_X1_showRows_138 rfl (sX1_putIntoLine hw) rfl rfl rfl rfl rfl (fun m7 hw => ?_)
        refine am_iload_n dX1_showRows_46 rfl ?_
        refine am_iload dX1_showRows_47 rfl ?_
        refine am_idiv dX1_showRows_49 hw.1 ?_
        have hw := hw.2
        refine am_top (fun x8 ex8 => ?_)
        have hw := hw x8 ex8
        refine am_istore_n' (ls' := [some (.ref 0), none, some (.int x8), some (.int v3), some (.int r6)]) dX1_showRows_50 rfl rfl rfl ?_
        refine am_iinc' (lf := fun y9 => [some (.ref 0), none, some (.int x8), some (.int y9), some (.int r6)]) dX1_showRows_51 rfl rfl rfl ic_1 (fun _ => rfl) (fun x9 ex9 => ?_)
        have hw := hw x9 ex9
        refine am_goto 14 dX1_showRows_54 (by decide) ?_
        refine am_forget (ls' := [some (.ref 0), none, some (.int x8), some (.int x9), none]) [true, false, true, true, false] rfl ?_
        exact ih _ _ _ hw
def wX1_showRows (a1 : Int32) (m0 : Mu) (K : Mu → Prop) : Prop := wX3_emptyRows (mu_sub m0 20) (fun k1 : Mu => ∀ m2 : Mu, m2 = mu_put m0 20 9 k1 → ∀ x3 : Int32, x3 = (a1 / (12 : Int32)) → (∃ n10 : Nat, lpX1_showRows_14 K n10 x3 (0 : Int32) m2))
set_option maxRecDepth 20000 in
theorem sX1_showRows {a1 : Int32} {m0 : Mu} {K : Mu → Prop} (hw : wX1_showRows a1 m0 K) : am_Met mX1_showRows [.ref 0, .int a1] (fX1 m0) 0 0 (zV fX1 K) := by
  unfold wX1_showRows at hw
  refine am_Met.of2 (ls := [some (.ref 0), some (.int a1), none, none, none]) pf_X1_showRows rfl rfl rfl rfl ?_
  refine am_aload_n dX1_showRows_0 rfl ?_
  refine am_getf dX1_showRows_1 fl_X1_12 rfl rfl ?_
  refine am_partU [1, 2, 3, 4, 5, 6] fam_X3 dX1_showRows_4 q_X1_showRows_135 rfl (sX3_emptyRows hw) rfl rfl rfl rfl rfl rfl rfl rfl rfl (fun k1 hw => ?_)
  refine am_hm (F := fX1) (m := mu_put m0 20 9 k1) rfl (fun m2 em2 => ?_)
  have hw := hw m2 em2
  refine am_iload_n dX1_showRows_7 rfl ?_
  refine am_bipush dX1_showRows_8 bc_12 ?_
  refine am_idiv dX1_showRows_10 nz_12 ?_
  refine am_top (fun x3 ex3 => ?_)
  have hw := hw x3 ex3
  refine am_istore_n' (ls' := [some (.ref 0), some (.int a1), some (.int x3), none, none]) dX1_showRows_11 rfl rfl rfl ?_
  refine am_iconst dX1_showRows_12 ic_0 ?_
  refine am_istore_n' (ls' := [some (.ref 0), some (.int a1), some (.int x3), some (.int (0 : Int32)), none]) dX1_showRows_13 rfl rfl rfl ?_
  obtain ⟨n10, hw⟩ := hw
  refine am_forget (ls' := [some (.ref 0), none, some (.int x3), some (.int (0 : Int32)), none]) [true, false, true, true, false] rfl ?_
  exact slpX1_showRows_14  n10 _ _ _ hw

def wX1_improve_t (a1 a2 : Int32) (m0 : Mu) (K : Mu → Prop) : Prop := ((a1 < 0 → K m0) ∧ (¬ a1 < 0 → (((m0 13 9) ≤ a1 → K m0) ∧ (¬ (m0 13 9) ≤ a1 → (((4032 : Int32) ≤ a1 → K m0) ∧ (¬ (4032 : Int32) ≤ a1 → (vp_in a1 4032 ∧ (((m0 5 (a1).toNatClampNeg) ≤ a2 → K m0) ∧ (¬ (m0 5 (a1).toNatClampNeg) ≤ a2 → (vp_in a1 4032 ∧ ∀ m5 : Mu, m5 = mu_up m0 5 (a1).toNatClampNeg a2 → wX2_add a1 (mu_sub m5 30) (fun k6 : Mu => ∀ m7 : Mu, m7 = mu_put m5 30 4 k6 → K m7)))))))))))
set_option maxRecDepth 20000 in
theorem sX1_improve_t {a1 a2 : Int32} {m0 : Mu} {K : Mu → Prop} (hw : wX1_improve_t a1 a2 m0 K) : am_Met mX1_improve [.ref 0, .int a1, .int a2, .ref 12] (fX1 m0) 0 0 (zV fX1 K) := by
  unfold wX1_improve_t at hw
  refine am_Met.of2 (ls := [some (.ref 0), some (.int a1), some (.int a2), some (.ref 12)]) pf_X1_improve rfl rfl rfl rfl ?_
  refine am_iload_n dX1_improve_0 rfl ?_
  refine am_if_lt 41 dX1_improve_1 (by decide) (fun c1 => ?_) (fun c1 => ?_)
  · have hw := hw.1 c1
    exact am_vreturn dX1_improve_41 rfl ⟨_, rfl, rfl, hw⟩
  · have hw := hw.2 c1
    refine am_iload_n dX1_improve_4 rfl ?_
    refine am_aload_n dX1_improve_5 rfl ?_
    refine am_getf dX1_improve_6 fl_X1_58 rfl rfl ?_
    refine am_icmp_ge 41 dX1_improve_9 (by decide) (fun c2 => ?_) (fun c2 => ?_)
    · have hw := hw.1 c2
      exact am_vreturn dX1_improve_41 rfl ⟨_, rfl, rfl, hw⟩
    · have hw := hw.2 c2
      refine am_iload_n dX1_improve_12 rfl ?_
      refine am_sipush dX1_improve_13 sc_4032 ?_
      refine am_icmp_ge 41 dX1_improve_16 (by decide) (fun c3 => ?_) (fun c3 => ?_)
      · have hw := hw.1 c3
        exact am_vreturn dX1_improve_41 rfl ⟨_, rfl, rfl, hw⟩
      · have hw := hw.2 c3
        refine am_iload_n dX1_improve_19 rfl ?_
        refine am_aload_n dX1_improve_20 rfl ?_
        refine am_getf dX1_improve_21 fl_X1_31 rfl rfl ?_
        refine am_iload_n dX1_improve_24 rfl ?_
        refine am_iaload dX1_improve_25 rfl hw.1 ?_
        have hw := hw.2
        refine am_icmp_ge 41 dX1_improve_26 (by decide) (fun c4 => ?_) (fun c4 => ?_)
        · have hw := hw.1 c4
          exact am_vreturn dX1_improve_41 rfl ⟨_, rfl, rfl, hw⟩
        · have hw := hw.2 c4
          refine am_aload_n dX1_improve_29 rfl ?_
          refine am_getf dX1_improve_30 fl_X1_31 rfl rfl ?_
          refine am_iload_n dX1_improve_33 rfl ?_
          refine am_iload_n dX1_improve_34 rfl ?_
          refine am_iastore' (F := fX1) (m := mu_up m0 5 (a1).toNatClampNeg a2) dX1_improve_35 rfl hw.1 rfl (fun m5 em5 => ?_)
          have hw := hw.2 m5 em5
          refine am_aload_n dX1_improve_36 rfl ?_
          refine am_iload_n dX1_improve_37 rfl ?_
          refine am_partU [12, 13] fam_X2 dX1_improve_38 q_X1_improve_190 rfl (sX2_add hw) rfl rfl rfl rfl rfl rfl rfl rfl rfl (fun k6 hw => ?_)
          refine am_hm (F := fX1) (m := mu_put m5 30 4 k6) rfl (fun m7 em7 => ?_)
          have hw := hw m7 em7
          exact am_vreturn dX1_improve_41 rfl ⟨_, rfl, rfl, hw⟩
def wX1_improve_m (a1 a2 : Int32) (m0 : Mu) (K : Mu → Prop) : Prop := ((a1 < 0 → K m0) ∧ (¬ a1 < 0 → (((m0 13 9) ≤ a1 → K m0) ∧ (¬ (m0 13 9) ≤ a1 → (((4032 : Int32) ≤ a1 → K m0) ∧ (¬ (4032 : Int32) ≤ a1 → (vp_in a1 4032 ∧ (((m0 5 (a1).toNatClampNeg) ≤ a2 → K m0) ∧ (¬ (m0 5 (a1).toNatClampNeg) ≤ a2 → (vp_in a1 4032 ∧ ∀ m5 : Mu, m5 = mu_up m0 5 (a1).toNatClampNeg a2 → wX2_add a1 (mu_sub m5 40) (fun k6 : Mu => ∀ m7 : Mu, m7 = mu_put m5 40 4 k6 → K m7)))))))))))
set_option maxRecDepth 20000 in
theorem sX1_improve_m {a1 a2 : Int32} {m0 : Mu} {K : Mu → Prop} (hw : wX1_improve_m a1 a2 m0 K) : am_Met mX1_improve [.ref 0, .int a1, .int a2, .ref 14] (fX1 m0) 0 0 (zV fX1 K) := by
  unfold wX1_improve_m at hw
  refine am_Met.of2 (ls := [some (.ref 0), some (.int a1), some (.int a2), some (.ref 14)]) pf_X1_improve rfl rfl rfl rfl ?_
  refine am_iload_n dX1_improve_0 rfl ?_
  refine am_if_lt 41 dX1_improve_1 (by decide) (fun c1 => ?_) (fun c1 => ?_)
  · have hw := hw.1 c1
    exact am_vreturn dX1_improve_41 rfl ⟨_, rfl, rfl, hw⟩
  · have hw := hw.2 c1
    refine am_iload_n dX1_improve_4 rfl ?_
    refine am_aload_n dX1_improve_5 rfl ?_
    refine am_getf dX1_improve_6 fl_X1_58 rfl rfl ?_
    refine am_icmp_ge 41 dX1_improve_9 (by decide) (fun c2 => ?_) (fun c2 => ?_)
    · have hw := hw.1 c2
      exact am_vreturn dX1_improve_41 rfl ⟨_, rfl, rfl, hw⟩
    · have hw := hw.2 c2
      refine am_iload_n dX1_improve_12 rfl ?_
      refine am_sipush dX1_improve_13 sc_4032 ?_
      refine am_icmp_ge 41 dX1_improve_16 (by decide) (fun c3 => ?_) (fun c3 => ?_)
      · have hw := hw.1 c3
        exact am_vreturn dX1_improve_41 rfl ⟨_, rfl, rfl, hw⟩
      · have hw := hw.2 c3
        refine am_iload_n dX1_improve_19 rfl ?_
        refine am_aload_n dX1_improve_20 rfl ?_
        refine am_getf dX1_improve_21 fl_X1_31 rfl rfl ?_
        refine am_iload_n dX1_improve_24 rfl ?_
        refine am_iaload dX1_improve_25 rfl hw.1 ?_
        have hw := hw.2
        refine am_icmp_ge 41 dX1_improve_26 (by decide) (fun c4 => ?_) (fun c4 => ?_)
        · have hw := hw.1 c4
          exact am_vreturn dX1_improve_41 rfl ⟨_, rfl, rfl, hw⟩
        · have hw := hw.2 c4
          refine am_aload_n dX1_improve_29 rfl ?_
          refine am_getf dX1_improve_30 fl_X1_31 rfl rfl ?_
          refine am_iload_n dX1_improve_33 rfl ?_
          refine am_iload_n dX1_improve_34 rfl ?_
          refine am_iastore' (F := fX1) (m := mu_up m0 5 (a1).toNatClampNeg a2) dX1_improve_35 rfl hw.1 rfl (fun m5 em5 => ?_)
          have hw := hw.2 m5 em5
          refine am_aload_n dX1_improve_36 rfl ?_
          refine am_iload_n dX1_improve_37 rfl ?_
          refine am_partU [14, 15] fam_X2 dX1_improve_38 q_X1_improve_190 rfl (sX2_add hw) rfl rfl rfl rfl rfl rfl rfl rfl rfl (fun k6 hw => ?_)
          refine am_hm (F := fX1) (m := mu_put m5 40 4 k6) rfl (fun m7 em7 => ?_)
          have hw := hw m7 em7
          exact am_vreturn dX1_improve_41 rfl ⟨_, rfl, rfl, hw⟩

def lpX1_addGoals_46 (K : Mu → Prop) (X0 : Int32 → Mu → Prop) : Nat → Int32 → Int32 → Mu → Prop
  | 0, _, _, _ => False
  | n + 1, v1, v2, m0 => (((12 : Int32) ≤ v2 → ∀ x9 : Int32, x9 = v1 + (12 : Int32) → X0 x9 m0) ∧ (¬ (12 : Int32) ≤ v2 → wX1_improve_m (v1 + v2) (0 : Int32) m0 (fun m10 : Mu => ∀ x11 : Int32, x11 = v2 + (1 : Int32) → lpX1_addGoals_46 K X0 n v1 x11 m10)))
set_option maxRecDepth 20000 in
theorem slpX1_addGoals_46 {K : Mu → Prop} {X0 : Int32 → Mu → Prop} (hX0 : ∀ (a0 : Int32) (mm : Mu), X0 a0 mm → am_Ok mX1_addGoals none (zV fX1 K) 0 0 2 [some (.ref 0), some (.int a0), none] [] (fX1 mm)) : ∀ (n : Nat) (v1 v2 : Int32) (m0 : Mu), lpX1_addGoals_46 K X0 n v1 v2 m0 → am_Ok mX1_addGoals none (zV fX1 K) 0 0 46 [some (.ref 0), some (.int v1), some (.int v2)] [] (fX1 m0) := by
  intro n
  induction n with
  | zero => intro v1 v2 m0 hw; exact False.elim hw
  | succ n ih =>
    intro v1 v2 m0 hw
    unfold lpX1_addGoals_46 at hw
    refine am_iload_n dX1_addGoals_46 rfl ?_
    refine am_bipush dX1_addGoals_47 bc_12 ?_
    refine am_icmp_ge 70 dX1_addGoals_49 (by decide) (fun c8 => ?_) (fun c8 => ?_)
    · have hw := hw.1 c8
      refine am_iinc' (lf := fun y9 => [some (.ref 0), some (.int y9), some (.int v2)]) dX1_addGoals_70 rfl rfl rfl ic_12 (fun _ => rfl) (fun x9 ex9 => ?_)
      have hw := hw x9 ex9
      refine am_goto 2 dX1_addGoals_73 (by decide) ?_
      refine am_forget (ls' := [some (.ref 0), some (.int x9), none]) [true, true, false] rfl ?_
      exact hX0 _ _ hw
    · have hw := hw.2 c8
      refine am_aload_n dX1_addGoals_52 rfl ?_
      refine am_iload_n dX1_addGoals_53 rfl ?_
      refine am_iload_n dX1_addGoals_54 rfl ?_
      refine am_iadd dX1_addGoals_55 ?_
      refine am_iconst dX1_addGoals_56 ic_0 ?_
      refine am_aload_n dX1_addGoals_57 rfl ?_
      refine am_getf dX1_addGoals_58 fl_X1_41 rfl rfl ?_
      refine am_selfU fam_X1 rfl dX1_addGoals_61 q_X1_addGoals_131 rfl (sX1_improve_m hw) rfl rfl rfl rfl rfl (fun m10 hw => ?_)
      refine am_iinc' (lf := fun y9 => [some (.ref 0), some (.int v1), some (.int y9)]) dX1_addGoals_64 rfl rfl rfl ic_1 (fun _ => rfl) (fun x11 ex11 => ?_)
      have hw := hw x11 ex11
      refine am_goto 46 dX1_addGoals_67 (by decide) ?_
      refine am_forget (ls' := [some (.ref 0), some (.int v1), some (.int x11)]) [true, true, true] rfl ?_
      exact ih _ _ _ hw
def lpX1_addGoals_2 (K : Mu → Prop)  : Nat → Int32 → Mu → Prop
  | 0, _, _ => False
  | n + 1, v1, m0 => (((m0 13 9) ≤ v1 → K m0) ∧ (¬ (m0 13 9) ≤ v1 → wX1_showRows v1 m0 (fun m2 : Mu => wX3_locomotiveAt (m2 13 12) (0 : Int32) (mu_sub m2 20) (fun r3 : Int32 => ((r3 = (m2 13 11) → wX3_allFit (mu_sub m2 20) (fun r5 : Int32 => ((r5 = 0 → ∀ x7 : Int32, x7 = v1 + (12 : Int32) → lpX1_addGoals_2 K n x7 m2) ∧ (¬ r5 = 0 → (∃ n12 : Nat, lpX1_addGoals_46 K (fun a0 mm => lpX1_addGoals_2 K n a0 mm) n12 v1 (0 : Int32) m2))))) ∧ (¬ r3 = (m2 13 11) → ∀ x13 : Int32, x13 = v1 + (12 : Int32) → lpX1_addGoals_2 K n x13 m2))))))
set_option maxRecDepth 20000 in
theorem slpX1_addGoals_2 {K : Mu → Prop} : ∀ (n : Nat) (v1 : Int32) (m0 : Mu), lpX1_addGoals_2 K n v1 m0 → am_Ok mX1_addGoals none (zV fX1 K) 0 0 2 [some (.ref 0), some (.int v1), none] [] (fX1 m0) := by
  intro n
  induction n with
  | zero => intro v1 m0 hw; exact False.elim hw
  | succ n ih =>
    intro v1 m0 hw
    unfold lpX1_addGoals_2 at hw
    refine am_iload_n dX1_addGoals_2 rfl ?_
    refine am_aload_n dX1_addGoals_3 rfl ?_
    refine am_getf dX1_addGoals_4 fl_X1_58 rfl rfl ?_
    refine am_icmp_ge 76 dX1_addGoals_7 (by decide) (fun c1 => ?_) (fun c1 => ?_)
    · have hw := hw.1 c1
      exact am_vreturn dX1_addGoals_76 rfl ⟨_, rfl, rfl, hw⟩
    · have hw := hw.2 c1
      refine am_aload_n dX1_addGoals_10 rfl ?_
      refine am_iload_n dX1_addGoals_11 rfl ?_
      refine am_selfU fam_X1 rfl dX1_addGoals_12 q_X1_addGoals_121 rfl (sX1_showRows hw) rfl rfl rfl rfl rfl (fun m2 hw => ?_)
      refine am_aload_n dX1_addGoals_15 rfl ?_
      refine am_getf dX1_addGoals_16 fl_X1_12 rfl rfl ?_
      refine am_aload_n dX1_addGoals_19 rfl ?_
      refine am_getf dX1_addGoals_20 fl_X1_48 rfl rfl ?_
      refine am_iconst dX1_addGoals_23 ic_0 ?_
      refine am_partP [1, 2, 3, 4, 5, 6] fam_X3 dX1_addGoals_24 q_X1_addGoals_124 rfl (sX3_locomotiveAt hw) rfl rfl rfl rfl rfl rfl rfl rfl rfl (fun r3 hw => ?_)
      refine am_aload_n dX1_addGoals_27 rfl ?_
      refine am_getf dX1_addGoals_28 fl_X1_44 rfl rfl ?_
      refine am_icmp_ne 70 dX1_addGoals_31 (by decide) (fun c4 => ?_) (fun c4 => ?_)
      · have hw := hw.1 c4
        refine am_aload_n dX1_addGoals_34 rfl ?_
        refine am_getf dX1_addGoals_35 fl_X1_12 rfl rfl ?_
        refine am_partP [1, 2, 3, 4, 5, 6] fam_X3 dX1_addGoals_38 q_X1_addGoals_127 rfl (sX3_allFit hw) rfl rfl rfl rfl rfl rfl rfl rfl rfl (fun r5 hw => ?_)
        refine am_if_eq 70 dX1_addGoals_41 (by decide) (fun c6 => ?_) (fun c6 => ?_)
        · have hw := hw.1 c6
          refine am_iinc' (lf := fun y9 => [some (.ref 0), some (.int y9), none]) dX1_addGoals_70 rfl rfl rfl ic_12 (fun _ => rfl) (fun x7 ex7 => ?_)
          have hw := hw x7 ex7
          refine am_goto 2 dX1_addGoals_73 (by decide) ?_
          refine am_forget (ls' := [some (.ref 0), some (.int x7), none]) [true, true, false] rfl ?_
          exact ih _ _ hw
        · have hw := hw.2 c6
          refine am_iconst dX1_addGoals_44 ic_0 ?_
          refine am_istore_n' (ls' := [some (.ref 0), some (.int v1), some (.int (0 : Int32))]) dX1_addGoals_45 rfl rfl rfl ?_
          obtain ⟨n12, hw⟩ := hw
          refine am_forget (ls' := [some (.ref 0), some (.int v1), some (.int (0 : Int32))]) [true, true, true] rfl ?_
          exact slpX1_addGoals_46 (fun a0 mm hq => ih a0 mm hq) n12 _ _ _ hw
      · have hw := hw.2 c4
        refine am_iinc' (lf := fun y9 => [some (.ref 0), some (.int y9), none]) dX1_addGoals_70 rfl rfl rfl ic_12 (fun _ => rfl) (fun x13 ex13 => ?_)
        have hw := hw x13 ex13
        refine am_goto 2 dX1_addGoals_73 (by decide) ?_
        refine am_forget (ls' := [some (.ref 0), some (.int x13), none]) [true, true, false] rfl ?_
        exact ih _ _ hw
def wX1_addGoals (m0 : Mu) (K : Mu → Prop) : Prop := (∃ n14 : Nat, lpX1_addGoals_2 K n14 (0 : Int32) m0)
set_option maxRecDepth 20000 in
theorem sX1_addGoals {m0 : Mu} {K : Mu → Prop} (hw : wX1_addGoals m0 K) : am_Met mX1_addGoals [.ref 0] (fX1 m0) 0 0 (zV fX1 K) := by
  unfold wX1_addGoals at hw
  refine am_Met.of2 (ls := [some (.ref 0), none, none]) pf_X1_addGoals rfl rfl rfl rfl ?_
  refine am_iconst dX1_addGoals_0 ic_0 ?_
  refine am_istore_n' (ls' := [some (.ref 0), some (.int (0 : Int32)), none]) dX1_addGoals_1 rfl rfl rfl ?_
  obtain ⟨n14, hw⟩ := hw
  refine am_forget (ls' := [some (.ref 0), some (.int (0 : Int32)), none]) [true, true, false] rfl ?_
  exact slpX1_addGoals_2  n14 _ _ hw

def jnX1_aimAt_87 (K : Mu → Prop) (m0 : Mu) : Prop := ∀ m11 : Mu, m11 = mu_set m0 5 (am_fill 4032 (1000000000 : Int32) (m0 5)) → wX2_reset (mu_sub m11 30) (fun k12 : Mu => ∀ m13 : Mu, m13 = mu_put m11 30 4 k12 → wX2_reset (mu_sub m13 40) (fun k14 : Mu => ∀ m15 : Mu, m15 = mu_put m13 40 4 k14 → wX1_addGoals m15 (fun k16 : Mu => ∀ m17 : Mu, m17 = mu_put m15 0 50 k16 → K m17)))
set_option maxRecDepth 20000 in
theorem sjnX1_aimAt_87 {m0 : Mu} {K : Mu → Prop} (hw : jnX1_aimAt_87 K m0) : am_Ok mX1_aimAt none (zV fX1Y K) 0 0 87 [some (.ref 0), none, none, none, none] [] (fX1Y m0) := by
  unfold jnX1_aimAt_87 at hw
  refine am_aload_n dX1_aimAt_87 rfl ?_
  refine am_getf dX1_aimAt_88 fl_X1_31 rfl rfl ?_
  refine am_ldc dX1_aimAt_91 wd_463 ?_
  refine am_fillS 11 dX1_aimAt_93 q_X1_aimAt_69 rfl rfl rfl rfl ?_
  refine am_hm (F := fX1Y) (m := mu_set m0 5 (am_fill 4032 (1000000000 : Int32) (m0 5))) rfl (fun m11 em11 => ?_)
  have hw := hw m11 em11
  refine am_aload_n dX1_aimAt_96 rfl ?_
  refine am_getf dX1_aimAt_97 fl_X1_37 rfl rfl ?_
  refine am_partU [12, 13] fam_X2 dX1_aimAt_100 q_X1_aimAt_75 rfl (sX2_reset hw) rfl rfl rfl rfl rfl rfl rfl rfl rfl (fun k12 hw => ?_)
  refine am_hm (F := fX1Y) (m := mu_put m11 30 4 k12) rfl (fun m13 em13 => ?_)
  have hw := hw m13 em13
  refine am_aload_n dX1_aimAt_103 rfl ?_
  refine am_getf dX1_aimAt_104 fl_X1_41 rfl rfl ?_
  refine am_partU [14, 15] fam_X2 dX1_aimAt_107 q_X1_aimAt_75 rfl (sX2_reset hw) rfl rfl rfl rfl rfl rfl rfl rfl rfl (fun k14 hw => ?_)
  refine am_hm (F := fX1Y) (m := mu_put m13 40 4 k14) rfl (fun m15 em15 => ?_)
  have hw := hw m15 em15
  refine am_aload_n dX1_aimAt_110 rfl ?_
  refine am_preU (gY m15) rfl fam_X1 rfl dX1_aimAt_111 q_X1_aimAt_78 rfl (sX1_addGoals hw) rfl rfl rfl rfl rfl (fun k16 hw => ?_)
  refine am_hm (F := fX1Y) (m := mu_put m15 0 50 k16) rfl (fun m17 em17 => ?_)
  have hw := hw m17 em17
  exact am_vreturn dX1_aimAt_114 rfl ⟨_, rfl, rfl, hw⟩
def lpX1_aimAt_48 (K : Mu → Prop)  : Nat → Int32 → Mu → Prop
  | 0, _, _ => False
  | n + 1, v4, m0 => (((m0 28 5) ≤ v4 → jnX1_aimAt_87 K m0) ∧ (¬ (m0 28 5) ≤ v4 → (((3 : Int32) ≤ v4 → jnX1_aimAt_87 K m0) ∧ (¬ (3 : Int32) ≤ v4 → wX1_waysToPut v4 m0 (fun r19 : Int32 => ∀ m20 : Mu, m20 = mu_up m0 13 9 ((m0 13 9) * r19) → ∀ x21 : Int32, x21 = v4 + (1 : Int32) → lpX1_aimAt_48 K n x21 m20)))))
set_option maxRecDepth 20000 in
theorem slpX1_aimAt_48 {K : Mu → Prop} : ∀ (n : Nat) (v4 : Int32) (m0 : Mu), lpX1_aimAt_48 K n v4 m0 → am_Ok mX1_aimAt none (zV fX1Y K) 0 0 48 [some (.ref 0), none, none, none, some (.int v4)] [] (fX1Y m0) := by
  intro n
  induction n with
  | zero => intro v4 m0 hw; exact False.elim hw
  | succ n ih =>
    intro v4 m0 hw
    unfold lpX1_aimAt_48 at hw
    refine am_iload dX1_aimAt_48 rfl ?_
    refine am_aload_n dX1_aimAt_50 rfl ?_
    refine am_getf dX1_aimAt_51 fl_X1_12 rfl rfl ?_
    refine am_getf dX1_aimAt_54 fl_X1_61 rfl rfl ?_
    refine am_icmp_ge 87 dX1_aimAt_57 (by decide) (fun c10 => ?_) (fun c10 => ?_)
    · have hw := hw.1 c10
      refine am_forget (ls' := [some (.ref 0), none, none, none, none]) [true, false, false, false, false] rfl ?_
      exact sjnX1_aimAt_87  hw
    · have hw := hw.2 c10
      refine am_iload dX1_aimAt_60 rfl ?_
      refine am_iconst dX1_aimAt_62 ic_3 ?_
      refine am_icmp_ge 87 dX1_aimAt_63 (by decide) (fun c18 => ?_) (fun c18 => ?_)
      · have hw := hw.1 c18
        refine am_forget (ls' := [some (.ref 0), none, none, none, none]) [true, false, false, false, false] rfl ?_
        exact sjnX1_aimAt_87  hw
      · have hw := hw.2 c18
        refine am_aload_n dX1_aimAt_66 rfl ?_
        refine am_dup dX1_aimAt_67 rfl ?_
        refine am_getf dX1_aimAt_68 fl_X1_58 rfl rfl ?_
        refine am_aload_n dX1_aimAt_71 rfl ?_
        refine am_iload dX1_aimAt_72 rfl ?_
        refine am_preP (gY m0) rfl fam_X1 rfl dX1_aimAt_74 q_X1_aimAt_64 rfl (sX1_waysToPut hw) rfl rfl rfl rfl rfl (fun r19 hw => ?_)
        refine am_imul dX1_aimAt_77 ?_
        refine am_putf' (F := fX1Y) (m := mu_up m0 13 9 ((m0 13 9) * r19)) dX1_aimAt_78 fp_X1_58 rfl rfl rfl (fun m20 em20 => ?_)
        have hw := hw m20 em20
        refine am_iinc' (lf := fun y9 => [some (.ref 0), none, none, none, some (.int y9)]) dX1_aimAt_81 rfl rfl rfl ic_1 (fun _ => rfl) (fun x21 ex21 => ?_)
        have hw := hw x21 ex21
        refine am_goto 48 dX1_aimAt_84 (by decide) ?_
        refine am_forget (ls' := [some (.ref 0), none, none, none, some (.int x21)]) [true, false, false, false, true] rfl ?_
        exact ih _ _ hw
def jnX1_aimAt_17 (K : Mu → Prop) (v2 v3 : Int32) (m0 : Mu) : Prop := ∀ m3 : Mu, m3 = mu_up m0 13 11 v2 → ∀ m4 : Mu, m4 = mu_up m3 13 12 v3 → wX3_copyFrom (mu_two m4 20 10 50) (fun k5 : Mu => ∀ m6 : Mu, m6 = mu_put (mu_put m4 20 9 k5) 50 9 (mu_sub k5 10) → wX1_listPlaces m6 (fun k7 : Mu => ∀ m8 : Mu, m8 = mu_put m6 0 50 k7 → ∀ m9 : Mu, m9 = mu_up m8 13 9 (12 : Int32) → (∃ n22 : Nat, lpX1_aimAt_48 K n22 (0 : Int32) m9)))
set_option maxRecDepth 20000 in
theorem sjnX1_aimAt_17 {m0 : Mu} {K : Mu → Prop} {v2 v3 : Int32} (hw : jnX1_aimAt_17 K v2 v3 m0) : am_Ok mX1_aimAt none (zV fX1Y K) 0 0 17 [some (.ref 0), some (.ref 16), some (.int v2), some (.int v3), none] [] (fX1Y m0) := by
  unfold jnX1_aimAt_17 at hw
  refine am_aload_n dX1_aimAt_17 rfl ?_
  refine am_iload_n dX1_aimAt_18 rfl ?_
  refine am_putf' (F := fX1Y) (m := mu_up m0 13 11 v2) dX1_aimAt_19 fp_X1_44 rfl rfl rfl (fun m3 em3 => ?_)
  have hw := hw m3 em3
  refine am_aload_n dX1_aimAt_22 rfl ?_
  refine am_iload_n dX1_aimAt_23 rfl ?_
  refine am_putf' (F := fX1Y) (m := mu_up m3 13 12 v3) dX1_aimAt_24 fp_X1_48 rfl rfl rfl (fun m4 em4 => ?_)
  have hw := hw m4 em4
  refine am_aload_n dX1_aimAt_27 rfl ?_
  refine am_getf dX1_aimAt_28 fl_X1_12 rfl rfl ?_
  refine am_aload_n dX1_aimAt_31 rfl ?_
  refine am_partU [1, 2, 3, 4, 5, 6, 16, 17, 18, 19, 20, 21] fam_X3Y dX1_aimAt_32 q_X1_aimAt_51 rfl (sX3_copyFrom hw) rfl rfl rfl rfl rfl rfl rfl rfl rfl (fun k5 hw => ?_)
  refine am_hm (F := fX1Y) (m := mu_put (mu_put m4 20 9 k5) 50 9 (mu_sub k5 10)) rfl (fun m6 em6 => ?_)
  have hw := hw m6 em6
  refine am_aload_n dX1_aimAt_35 rfl ?_
  refine am_preU (gY m6) rfl fam_X1 rfl dX1_aimAt_36 q_X1_aimAt_55 rfl (sX1_listPlaces hw) rfl rfl rfl rfl rfl (fun k7 hw => ?_)
  refine am_hm (F := fX1Y) (m := mu_put m6 0 50 k7) rfl (fun m8 em8 => ?_)
  have hw := hw m8 em8
  refine am_aload_n dX1_aimAt_39 rfl ?_
  refine am_bipush dX1_aimAt_40 bc_12 ?_
  refine am_putf' (F := fX1Y) (m := mu_up m8 13 9 (12 : Int32)) dX1_aimAt_42 fp_X1_58 rfl rfl rfl (fun m9 em9 => ?_)
  have hw := hw m9 em9
  refine am_iconst dX1_aimAt_45 ic_0 ?_
  refine am_istore' (ls' := [some (.ref 0), some (.ref 16), some (.int v2), some (.int v3), some (.int (0 : Int32))]) dX1_aimAt_46 rfl rfl rfl ?_
  obtain ⟨n22, hw⟩ := hw
  refine am_forget (ls' := [some (.ref 0), none, none, none, some (.int (0 : Int32))]) [true, false, false, false, true] rfl ?_
  exact slpX1_aimAt_48  n22 _ _ hw
def wX1_aimAt (a2 a3 : Int32) (m0 : Mu) (K : Mu → Prop) : Prop := ((a2 = (m0 13 11) → ((a3 = (m0 13 12) → K m0) ∧ (¬ a3 = (m0 13 12) → jnX1_aimAt_17 K a2 a3 m0))) ∧ (¬ a2 = (m0 13 11) → jnX1_aimAt_17 K a2 a3 m0))
set_option maxRecDepth 20000 in
theorem sX1_aimAt {a2 a3 : Int32} {m0 : Mu} {K : Mu → Prop} (hw : wX1_aimAt a2 a3 m0 K) : am_Met mX1_aimAt [.ref 0, .ref 16, .int a2, .int a3] (fX1Y m0) 0 0 (zV fX1Y K) := by
  unfold wX1_aimAt at hw
  refine am_Met.of2 (ls := [some (.ref 0), some (.ref 16), some (.int a2), some (.int a3), none]) pf_X1_aimAt rfl rfl rfl rfl ?_
  refine am_iload_n dX1_aimAt_0 rfl ?_
  refine am_aload_n dX1_aimAt_1 rfl ?_
  refine am_getf dX1_aimAt_2 fl_X1_44 rfl rfl ?_
  refine am_icmp_ne 17 dX1_aimAt_5 (by decide) (fun c1 => ?_) (fun c1 => ?_)
  · have hw := hw.1 c1
    refine am_iload_n dX1_aimAt_8 rfl ?_
    refine am_aload_n dX1_aimAt_9 rfl ?_
    refine am_getf dX1_aimAt_10 fl_X1_48 rfl rfl ?_
    refine am_icmp_ne 17 dX1_aimAt_13 (by decide) (fun c2 => ?_) (fun c2 => ?_)
    · have hw := hw.1 c2
      exact am_vreturn dX1_aimAt_16 rfl ⟨_, rfl, rfl, hw⟩
    · have hw := hw.2 c2
      refine am_forget (ls' := [some (.ref 0), some (.ref 16), some (.int a2), some (.int a3), none]) [true, true, true, true, false] rfl ?_
      exact sjnX1_aimAt_17  hw
  · have hw := hw.2 c1
    refine am_forget (ls' := [some (.ref 0), some (.ref 16), some (.int a2), some (.int a3), none]) [true, true, true, true, false] rfl ?_
    exact sjnX1_aimAt_17  hw

def lpX1_stateOf_v_122 (K : Int32 → Mu → Prop)  : Nat → Int32 → Int32 → Mu → Prop
  | 0, _, _, _ => False
  | n + 1, v3, v4, m0 => ((v4 < 0 → K ((v3 * (12 : Int32)) + (m0 28 7)) m0) ∧ (¬ v4 < 0 → wX1_waysToPut v4 m0 (fun r5 : Int32 => (vp_in v4 3 ∧ ∀ x6 : Int32, x6 = ((v3 * r5) + (m0 2 (v4).toNatClampNeg)) → ∀ x7 : Int32, x7 = v4 + (-1 : Int32) → lpX1_stateOf_v_122 K n x6 x7 m0))))
set_option maxRecDepth 20000 in
theorem slpX1_stateOf_v_122 {K : Int32 → Mu → Prop} : ∀ (n : Nat) (v3 v4 : Int32) (m0 : Mu), lpX1_stateOf_v_122 K n v3 v4 m0 → am_Ok mX1_stateOf none (zI fX1 K) 0 0 122 [some (.ref 0), some (.ref 1), none, some (.int v3), some (.int v4), none, none, none] [] (fX1 m0) := by
  intro n
  induction n with
  | zero => intro v3 v4 m0 hw; exact False.elim hw
  | succ n ih =>
    intro v3 v4 m0 hw
    unfold lpX1_stateOf_v_122 at hw
    refine am_iload dX1_stateOf_122 rfl ?_
    refine am_if_lt 150 dX1_stateOf_124 (by decide) (fun c4 => ?_) (fun c4 => ?_)
    · have hw := hw.1 c4
      refine am_iload_n dX1_stateOf_150 rfl ?_
      refine am_bipush dX1_stateOf_151 bc_12 ?_
      refine am_imul dX1_stateOf_153 ?_
      refine am_aload_n dX1_stateOf_154 rfl ?_
      refine am_getf dX1_stateOf_155 fl_X1_157 rfl rfl ?_
      refine am_iadd dX1_stateOf_158 ?_
      exact am_ireturn dX1_stateOf_159 rfl ⟨_, _, rfl, rfl, hw⟩
    · have hw := hw.2 c4
      refine am_iload_n dX1_stateOf_127 rfl ?_
      refine am_aload_n dX1_stateOf_128 rfl ?_
      refine am_iload dX1_stateOf_129 rfl ?_
      refine am_selfP fam_X1 rfl dX1_stateOf_131 q_X1_stateOf_64 rfl (sX1_waysToPut hw) rfl rfl rfl rfl rfl (fun r5 hw => ?_)
      refine am_imul dX1_stateOf_134 ?_
      refine am_aload_n dX1_stateOf_135 rfl ?_
      refine am_getf dX1_stateOf_136 fl_X1_22 rfl rfl ?_
      refine am_iload dX1_stateOf_139 rfl ?_
      refine am_iaload dX1_stateOf_141 rfl hw.1 ?_
      have hw := hw.2
      refine am_iadd dX1_stateOf_142 ?_
      refine am_top (fun x6 ex6 => ?_)
      have hw := hw x6 ex6
      refine am_istore_n' (ls' := [some (.ref 0), some (.ref 1), none, some (.int x6), some (.int v4), none, none, none]) dX1_stateOf_143 rfl rfl rfl ?_
      refine am_iinc' (lf := fun y9 => [some (.ref 0), some (.ref 1), none, some (.int x6), some (.int y9), none, none, none]) dX1_stateOf_144 rfl rfl rfl ic_m1 (fun _ => rfl) (fun x7 ex7 => ?_)
      have hw := hw x7 ex7
      refine am_goto 122 dX1_stateOf_147 (by decide) ?_
      refine am_forget (ls' := [some (.ref 0), some (.ref 1), none, some (.int x6), some (.int x7), none, none, none]) [true, true, false, true, true, false, false, false] rfl ?_
      exact ih _ _ _ hw
def lpX1_stateOf_v_33 (K : Int32 → Mu → Prop) (X0 : Int32 → Int32 → Mu → Prop) : Nat → Int32 → Int32 → Int32 → Int32 → Mu → Prop
  | 0, _, _, _, _, _ => False
  | n + 1, v2, v3, v4, v5, m0 => ((v4 ≤ v5 → ∀ x15 : Int32, x15 = v3 + (1 : Int32) → X0 v2 x15 m0) ∧ (¬ v4 ≤ v5 → (vp_in v3 6 ∧ wX3_locomotiveAt (m0 1 (v3).toNatClampNeg) v5 (mu_sub m0 20) (fun r16 : Int32 => ((r16 < 0 → ∀ x18 : Int32, x18 = v5 + (1 : Int32) → lpX1_stateOf_v_33 K X0 n v2 v3 v4 x18 m0) ∧ (¬ r16 < 0 → (((3 : Int32) ≤ r16 → ∀ x20 : Int32, x20 = v5 + (1 : Int32) → lpX1_stateOf_v_33 K X0 n v2 v3 v4 x20 m0) ∧ (¬ (3 : Int32) ≤ r16 → ∀ x21 : Int32, x21 = (((1 : Int32) <<< (r16 &&& 31)) - (1 : Int32)) → wJ6_bitCount_0f7a4 (v2 &&& x21) (fun r22 : Int32 => (vp_in r16 3 ∧ ∀ m23 : Mu, m23 = mu_up m0 2 (r16).toNatClampNeg (v3 + r22) → ∀ x24 : Int32, x24 = (v2 ||| ((1 : Int32) <<< (r16 &&& 31))) → ∀ x25 : Int32, x25 = v5 + (1 : Int32) → lpX1_stateOf_v_33 K X0 n x24 v3 v4 x25 m23))))))))))
set_option maxRecDepth 20000 in
theorem slpX1_stateOf_v_33 {K : Int32 → Mu → Prop} {X0 : Int32 → Int32 → Mu → Prop} (hX0 : ∀ (a0 a1 : Int32) (mm : Mu), X0 a0 a1 mm → am_Ok mX1_stateOf none (zI fX1 K) 0 0 4 [some (.ref 0), some (.ref 1), some (.int a0), some (.int a1), none, none, none, none] [] (fX1 mm)) : ∀ (n : Nat) (v2 v3 v4 v5 : Int32) (m0 : Mu), lpX1_stateOf_v_33 K X0 n v2 v3 v4 v5 m0 → am_Ok mX1_stateOf none (zI fX1 K) 0 0 33 [some (.ref 0), some (.ref 1), some (.int v2), some (.int v3), some (.int v4), some (.int v5), none, none] [] (fX1 m0) := by
  intro n
  induction n with
  | zero => intro v2 v3 v4 v5 m0 hw; exact False.elim hw
  | succ n ih =>
    intro v2 v3 v4 v5 m0 hw
    unfold lpX1_stateOf_v_33 at hw
    refine am_iload dX1_stateOf_33 rfl ?_
    refine am_iload dX1_stateOf_35 rfl ?_
    refine am_icmp_ge 102 dX1_stateOf_37 (by decide) (fun c14 => ?_) (fun c14 => ?_)
    · have hw := hw.1 c14
      refine am_iinc' (lf := fun y9 => [some (.ref 0), some (.ref 1), some (.int v2), some (.int y9), some (.int v4), some (.int v5), none, none]) dX1_stateOf_102 rfl rfl rfl ic_1 (fun _ => rfl) (fun x15 ex15 => ?_)
      have hw := hw x15 ex15
      refine am_goto 4 dX1_stateOf_105 (by decide) ?_
      refine am_forget (ls' := [some (.ref 0), some (.ref 1), some (.int v2), some (.int x15), none, none, none, none]) [true, true, true, true, false, false, false, false] rfl ?_
      exact hX0 _ _ _ hw
    · have hw := hw.2 c14
      refine am_aload_n dX1_stateOf_40 rfl ?_
      refine am_aload_n dX1_stateOf_41 rfl ?_
      refine am_getf dX1_stateOf_42 fl_X1_18 rfl rfl ?_
      refine am_iload_n dX1_stateOf_45 rfl ?_
      refine am_iaload dX1_stateOf_46 rfl hw.1 ?_
      have hw := hw.2
      refine am_iload dX1_stateOf_47 rfl ?_
      refine am_partP [1, 2, 3, 4, 5, 6] fam_X3 dX1_stateOf_49 q_X1_stateOf_124 rfl (sX3_locomotiveAt hw) rfl rfl rfl rfl rfl rfl rfl rfl rfl (fun r16 hw => ?_)
      refine am_istore' (ls' := [some (.ref 0), some (.ref 1), some (.int v2), some (.int v3), some (.int v4), some (.int v5), some (.int r16), none]) dX1_stateOf_52 rfl rfl rfl ?_
      refine am_iload dX1_stateOf_54 rfl ?_
      refine am_if_lt 96 dX1_stateOf_56 (by decide) (fun c17 => ?_) (fun c17 => ?_)
      · have hw := hw.1 c17
        refine am_iinc' (lf := fun y9 => [some (.ref 0), some (.ref 1), some (.int v2), some (.int v3), some (.int v4), some (.int y9), some (.int r16), none]) dX1_stateOf_96 rfl rfl rfl ic_1 (fun _ => rfl) (fun x18 ex18 => ?_)
        have hw := hw x18 ex18
        refine am_goto 33 dX1_stateOf_99 (by decide) ?_
        refine am_forget (ls' := [some (.ref 0), some (.ref 1), some (.int v2), some (.int v3), some (.int v4), some (.int x18), none, none]) [true, true, true, true, true, true, false, false] rfl ?_
        exact ih _ _ _ _ _ hw
      · have hw := hw.2 c17
        refine am_iload dX1_stateOf_59 rfl ?_
        refine am_iconst dX1_stateOf_61 ic_3 ?_
        refine am_icmp_ge 96 dX1_stateOf_62 (by decide) (fun c19 => ?_) (fun c19 => ?_)
        · have hw := hw.1 c19
          refine am_iinc' (lf := fun y9 => [some (.ref 0), some (.ref 1), some (.int v2), some (.int v3), some (.int v4), some (.int y9), some (.int r16), none]) dX1_stateOf_96 rfl rfl rfl ic_1 (fun _ => rfl) (fun x20 ex20 => ?_)
          have hw := hw x20 ex20
          refine am_goto 33 dX1_stateOf_99 (by decide) ?_
          refine am_forget (ls' := [some (.ref 0), some (.ref 1), some (.int v2), some (.int v3), some (.int v4), some (.int x20), none, none]) [true, true, true, true, true, true, false, false] rfl ?_
          exact ih _ _ _ _ _ hw
        · have hw := hw.2 c19
          refine am_iconst dX1_stateOf_65 ic_1 ?_
          refine am_iload dX1_stateOf_66 rfl ?_
          refine am_ishl dX1_stateOf_68 ?_
          refine am_iconst dX1_stateOf_69 ic_1 ?_
          refine am_isub dX1_stateOf_70 ?_
          refine am_top (fun x21 ex21 => ?_)
          have hw := hw x21 ex21
          refine am_istore' (ls' := [some (.ref 0), some (.ref 1), some (.int v2), some (.int v3), some (.int v4), some (.int v5), some (.int r16), some (.int x21)]) dX1_stateOf_71 rfl rfl rfl ?_
          refine am_aload_n dX1_stateOf_73 rfl ?_
          refine am_getf dX1_stateOf_74 fl_X1_22 rfl rfl ?_
          refine am_iload dX1_stateOf_77 rfl ?_
          refine am_iload_n dX1_stateOf_79 rfl ?_
          refine am_iload_n dX1_stateOf_80 rfl ?_
          refine am_iload dX1_stateOf_81 rfl ?_
          refine am_iand dX1_stateOf_83 ?_
          refine am_stS dX1_stateOf_84 q_X1_stateOf_149 (sJ6_bitCount_0f7a4 hw) rfl rfl rfl rfl (fun r22 hw => ?_)
          refine am_iadd dX1_stateOf_87 ?_
          refine am_iastore' (F := fX1) (m := mu_up m0 2 (r16).toNatClampNeg (v3 + r22)) dX1_stateOf_88 rfl hw.1 rfl (fun m23 em23 => ?_)
          have hw := hw.2 m23 em23
          refine am_iload_n dX1_stateOf_89 rfl ?_
          refine am_iconst dX1_stateOf_90 ic_1 ?_
          refine am_iload dX1_stateOf_91 rfl ?_
          refine am_ishl dX1_stateOf_93 ?_
          refine am_ior dX1_stateOf_94 ?_
          refine am_top (fun x24 ex24 => ?_)
          have hw := hw x24 ex24
          refine am_istore_n' (ls' := [some (.ref 0), some (.ref 1), some (.int x24), some (.int v3), some (.int v4), some (.int v5), some (.int r16), some (.int x21)]) dX1_stateOf_95 rfl rfl rfl ?_
          refine am_iinc' (lf := fun y9 => [some (.ref 0), some (.ref 1), some (.int x24), some (.int v3), some (.int v4), some (.int y9), some (.int r16), some (.int x21)]) dX1_stateOf_96 rfl rfl rfl ic_1 (fun _ => rfl) (fun x25 ex25 => ?_)
          have hw := hw x25 ex25
          refine am_goto 33 dX1_stateOf_99 (by decide) ?_
          refine am_forget (ls' := [some (.ref 0), some (.ref 1), some (.int x24), some (.int v3), some (.int v4), some (.int x25), none, none]) [true, true, true, true, true, true, false, false] rfl ?_
          exact ih _ _ _ _ _ hw
def lpX1_stateOf_v_4 (K : Int32 → Mu → Prop)  : Nat → Int32 → Int32 → Mu → Prop
  | 0, _, _, _ => False
  | n + 1, v2, v3, m0 => (((m0 13 8) ≤ v3 → wJ9_min_7cf53 (m0 28 5) (3 : Int32) (fun r2 : Int32 => ∀ x3 : Int32, x3 = (r2 - (1 : Int32)) → (∃ n8 : Nat, lpX1_stateOf_v_122 K n8 (0 : Int32) x3 m0))) ∧ (¬ (m0 13 8) ≤ v3 → (((6 : Int32) ≤ v3 → wJ9_min_7cf53 (m0 28 5) (3 : Int32) (fun r10 : Int32 => ∀ x11 : Int32, x11 = (r10 - (1 : Int32)) → (∃ n12 : Nat, lpX1_stateOf_v_122 K n12 (0 : Int32) x11 m0))) ∧ (¬ (6 : Int32) ≤ v3 → (vp_in v3 6 ∧ wX3_countAt (m0 1 (v3).toNatClampNeg) (mu_sub m0 20) (fun r13 : Int32 => (∃ n26 : Nat, lpX1_stateOf_v_33 K (fun a0 a1 mm => lpX1_stateOf_v_4 K n a0 a1 mm) n26 v2 v3 r13 (0 : Int32) m0)))))))
set_option maxRecDepth 20000 in
theorem slpX1_stateOf_v_4 {K : Int32 → Mu → Prop} : ∀ (n : Nat) (v2 v3 : Int32) (m0 : Mu), lpX1_stateOf_v_4 K n v2 v3 m0 → am_Ok mX1_stateOf none (zI fX1 K) 0 0 4 [some (.ref 0), some (.ref 1), some (.int v2), some (.int v3), none, none, none, none] [] (fX1 m0) := by
  intro n
  induction n with
  | zero => intro v2 v3 m0 hw; exact False.elim hw
  | succ n ih =>
    intro v2 v3 m0 hw
    unfold lpX1_stateOf_v_4 at hw
    refine am_iload_n dX1_stateOf_4 rfl ?_
    refine am_aload_n dX1_stateOf_5 rfl ?_
    refine am_getf dX1_stateOf_6 fl_X1_109 rfl rfl ?_
    refine am_icmp_ge 108 dX1_stateOf_9 (by decide) (fun c1 => ?_) (fun c1 => ?_)
    · have hw := hw.1 c1
      refine am_iconst dX1_stateOf_108 ic_0 ?_
      refine am_istore_n' (ls' := [some (.ref 0), some (.ref 1), some (.int v2), some (.int (0 : Int32)), none, none, none, none]) dX1_stateOf_109 rfl rfl rfl ?_
      refine am_aload_n dX1_stateOf_110 rfl ?_
      refine am_getf dX1_stateOf_111 fl_X1_61 rfl rfl ?_
      refine am_iconst dX1_stateOf_114 ic_3 ?_
      refine am_stS dX1_stateOf_115 q_X1_stateOf_154 (sJ9_min_7cf53 hw) rfl rfl rfl rfl (fun r2 hw => ?_)
      refine am_iconst dX1_stateOf_118 ic_1 ?_
      refine am_isub dX1_stateOf_119 ?_
      refine am_top (fun x3 ex3 => ?_)
      have hw := hw x3 ex3
      refine am_istore' (ls' := [some (.ref 0), some (.ref 1), some (.int v2), some (.int (0 : Int32)), some (.int x3), none, none, none]) dX1_stateOf_120 rfl rfl rfl ?_
      obtain ⟨n8, hw⟩ := hw
      refine am_forget (ls' := [some (.ref 0), some (.ref 1), none, some (.int (0 : Int32)), some (.int x3), none, none, none]) [true, true, false, true, true, false, false, false] rfl ?_
      exact slpX1_stateOf_v_122  n8 _ _ _ hw
    · have hw := hw.2 c1
      refine am_iload_n dX1_stateOf_12 rfl ?_
      refine am_bipush dX1_stateOf_13 bc_6 ?_
      refine am_icmp_ge 108 dX1_stateOf_15 (by decide) (fun c9 => ?_) (fun c9 => ?_)
      · have hw := hw.1 c9
        refine am_iconst dX1_stateOf_108 ic_0 ?_
        refine am_istore_n' (ls' := [some (.ref 0), some (.ref 1), some (.int v2), some (.int (0 : Int32)), none, none, none, none]) dX1_stateOf_109 rfl rfl rfl ?_
        refine am_aload_n dX1_stateOf_110 rfl ?_
        refine am_getf dX1_stateOf_111 fl_X1_61 rfl rfl ?_
        refine am_iconst dX1_stateOf_114 ic_3 ?_
        refine am_stS dX1_stateOf_115 q_X1_stateOf_154 (sJ9_min_7cf53 hw) rfl rfl rfl rfl (fun r10 hw => ?_)
        refine am_iconst dX1_stateOf_118 ic_1 ?_
        refine am_isub dX1_stateOf_119 ?_
        refine am_top (fun x11 ex11 => ?_)
        have hw := hw x11 ex11
        refine am_istore' (ls' := [some (.ref 0), some (.ref 1), some (.int v2), some (.int (0 : Int32)), some (.int x11), none, none, none]) dX1_stateOf_120 rfl rfl rfl ?_
        obtain ⟨n12, hw⟩ := hw
        refine am_forget (ls' := [some (.ref 0), some (.ref 1), none, some (.int (0 : Int32)), some (.int x11), none, none, none]) [true, true, false, true, true, false, false, false] rfl ?_
        exact slpX1_stateOf_v_122  n12 _ _ _ hw
      · have hw := hw.2 c9
        refine am_aload_n dX1_stateOf_18 rfl ?_
        refine am_aload_n dX1_stateOf_19 rfl ?_
        refine am_getf dX1_stateOf_20 fl_X1_18 rfl rfl ?_
        refine am_iload_n dX1_stateOf_23 rfl ?_
        refine am_iaload dX1_stateOf_24 rfl hw.1 ?_
        have hw := hw.2
        refine am_partP [1, 2, 3, 4, 5, 6] fam_X3 dX1_stateOf_25 q_X1_stateOf_142 rfl (sX3_countAt hw) rfl rfl rfl rfl rfl rfl rfl rfl rfl (fun r13 hw => ?_)
        refine am_istore' (ls' := [some (.ref 0), some (.ref 1), some (.int v2), some (.int v3), some (.int r13), none, none, none]) dX1_stateOf_28 rfl rfl rfl ?_
        refine am_iconst dX1_stateOf_30 ic_0 ?_
        refine am_istore' (ls' := [some (.ref 0), some (.ref 1), some (.int v2), some (.int v3), some (.int r13), some (.int (0 : Int32)), none, none]) dX1_stateOf_31 rfl rfl rfl ?_
        obtain ⟨n26, hw⟩ := hw
        refine am_forget (ls' := [some (.ref 0), some (.ref 1), some (.int v2), some (.int v3), some (.int r13), some (.int (0 : Int32)), none, none]) [true, true, true, true, true, true, false, false] rfl ?_
        exact slpX1_stateOf_v_33 (fun a0 a1 mm hq => ih a0 a1 mm hq) n26 _ _ _ _ _ hw
def wX1_stateOf_v (m0 : Mu) (K : Int32 → Mu → Prop) : Prop := (∃ n27 : Nat, lpX1_stateOf_v_4 K n27 (0 : Int32) (0 : Int32) m0)
set_option maxRecDepth 20000 in
theorem sX1_stateOf_v {m0 : Mu} {K : Int32 → Mu → Prop} (hw : wX1_stateOf_v m0 K) : am_Met mX1_stateOf [.ref 0, .ref 1] (fX1 m0) 0 0 (zI fX1 K) := by
  unfold wX1_stateOf_v at hw
  refine am_Met.of2 (ls := [some (.ref 0), some (.ref 1), none, none, none, none, none, none]) pf_X1_stateOf rfl rfl rfl rfl ?_
  refine am_iconst dX1_stateOf_0 ic_0 ?_
  refine am_istore_n' (ls' := [some (.ref 0), some (.ref 1), some (.int (0 : Int32)), none, none, none, none, none]) dX1_stateOf_1 rfl rfl rfl ?_
  refine am_iconst dX1_stateOf_2 ic_0 ?_
  refine am_istore_n' (ls' := [some (.ref 0), some (.ref 1), some (.int (0 : Int32)), some (.int (0 : Int32)), none, none, none, none]) dX1_stateOf_3 rfl rfl rfl ?_
  obtain ⟨n27, hw⟩ := hw
  refine am_forget (ls' := [some (.ref 0), some (.ref 1), some (.int (0 : Int32)), some (.int (0 : Int32)), none, none, none, none]) [true, true, true, true, false, false, false, false] rfl ?_
  exact slpX1_stateOf_v_4  n27 _ _ _ hw
def lpX1_stateOf_y_122 (K : Int32 → Mu → Prop)  : Nat → Int32 → Int32 → Mu → Prop
  | 0, _, _, _ => False
  | n + 1, v3, v4, m0 => ((v4 < 0 → K ((v3 * (12 : Int32)) + (m0 58 7)) m0) ∧ (¬ v4 < 0 → wX1_waysToPut v4 m0 (fun r5 : Int32 => (vp_in v4 3 ∧ ∀ x6 : Int32, x6 = ((v3 * r5) + (m0 2 (v4).toNatClampNeg)) → ∀ x7 : Int32, x7 = v4 + (-1 : Int32) → lpX1_stateOf_y_122 K n x6 x7 m0))))
set_option maxRecDepth 20000 in
theorem slpX1_stateOf_y_122 {K : Int32 → Mu → Prop} : ∀ (n : Nat) (v3 v4 : Int32) (m0 : Mu), lpX1_stateOf_y_122 K n v3 v4 m0 → am_Ok mX1_stateOf none (zI fX1Y K) 0 0 122 [some (.ref 0), some (.ref 16), none, some (.int v3), some (.int v4), none, none, none] [] (fX1Y m0) := by
  intro n
  induction n with
  | zero => intro v3 v4 m0 hw; exact False.elim hw
  | succ n ih =>
    intro v3 v4 m0 hw
    unfold lpX1_stateOf_y_122 at hw
    refine am_iload dX1_stateOf_122 rfl ?_
    refine am_if_lt 150 dX1_stateOf_124 (by decide) (fun c4 => ?_) (fun c4 => ?_)
    · have hw := hw.1 c4
      refine am_iload_n dX1_stateOf_150 rfl ?_
      refine am_bipush dX1_stateOf_151 bc_12 ?_
      refine am_imul dX1_stateOf_153 ?_
      refine am_aload_n dX1_stateOf_154 rfl ?_
      refine am_getf dX1_stateOf_155 fl_X1_157 rfl rfl ?_
      refine am_iadd dX1_stateOf_158 ?_
      exact am_ireturn dX1_stateOf_159 rfl ⟨_, _, rfl, rfl, hw⟩
    · have hw := hw.2 c4
      refine am_iload_n dX1_stateOf_127 rfl ?_
      refine am_aload_n dX1_stateOf_128 rfl ?_
      refine am_iload dX1_stateOf_129 rfl ?_
      refine am_preP (gY m0) rfl fam_X1 rfl dX1_stateOf_131 q_X1_stateOf_64 rfl (sX1_waysToPut hw) rfl rfl rfl rfl rfl (fun r5 hw => ?_)
      refine am_imul dX1_stateOf_134 ?_
      refine am_aload_n dX1_stateOf_135 rfl ?_
      refine am_getf dX1_stateOf_136 fl_X1_22 rfl rfl ?_
      refine am_iload dX1_stateOf_139 rfl ?_
      refine am_iaload dX1_stateOf_141 rfl hw.1 ?_
      have hw := hw.2
      refine am_iadd dX1_stateOf_142 ?_
      refine am_top (fun x6 ex6 => ?_)
      have hw := hw x6 ex6
      refine am_istore_n' (ls' := [some (.ref 0), some (.ref 16), none, some (.int x6), some (.int v4), none, none, none]) dX1_stateOf_143 rfl rfl rfl ?_
      refine am_iinc' (lf := fun y9 => [some (.ref 0), some (.ref 16), none, some (.int x6), some (.int y9), none, none, none]) dX1_stateOf_144 rfl rfl rfl ic_m1 (fun _ => rfl) (fun x7 ex7 => ?_)
      have hw := hw x7 ex7
      refine am_goto 122 dX1_stateOf_147 (by decide) ?_
      refine am_forget (ls' := [some (.ref 0), some (.ref 16), none, some (.int x6), some (.int x7), none, none, none]) [true, true, false, true, true, false, false, false] rfl ?_
      exact ih _ _ _ hw
def lpX1_stateOf_y_33 (K : Int32 → Mu → Prop) (X0 : Int32 → Int32 → Mu → Prop) : Nat → Int32 → Int32 → Int32 → Int32 → Mu → Prop
  | 0, _, _, _, _, _ => False
  | n + 1, v2, v3, v4, v5, m0 => ((v4 ≤ v5 → ∀ x15 : Int32, x15 = v3 + (1 : Int32) → X0 v2 x15 m0) ∧ (¬ v4 ≤ v5 → (vp_in v3 6 ∧ wX3_locomotiveAt (m0 1 (v3).toNatClampNeg) v5 (mu_sub m0 50) (fun r16 : Int32 => ((r16 < 0 → ∀ x18 : Int32, x18 = v5 + (1 : Int32) → lpX1_stateOf_y_33 K X0 n v2 v3 v4 x18 m0) ∧ (¬ r16 < 0 → (((3 : Int32) ≤ r16 → ∀ x20 : Int32, x20 = v5 + (1 : Int32) → lpX1_stateOf_y_33 K X0 n v2 v3 v4 x20 m0) ∧ (¬ (3 : Int32) ≤ r16 → ∀ x21 : Int32, x21 = (((1 : Int32) <<< (r16 &&& 31)) - (1 : Int32)) → wJ6_bitCount_0f7a4 (v2 &&& x21) (fun r22 : Int32 => (vp_in r16 3 ∧ ∀ m23 : Mu, m23 = mu_up m0 2 (r16).toNatClampNeg (v3 + r22) → ∀ x24 : Int32, x24 = (v2 ||| ((1 : Int32) <<< (r16 &&& 31))) → ∀ x25 : Int32, x25 = v5 + (1 : Int32) → lpX1_stateOf_y_33 K X0 n x24 v3 v4 x25 m23))))))))))
set_option maxRecDepth 20000 in
theorem slpX1_stateOf_y_33 {K : Int32 → Mu → Prop} {X0 : Int32 → Int32 → Mu → Prop} (hX0 : ∀ (a0 a1 : Int32) (mm : Mu), X0 a0 a1 mm → am_Ok mX1_stateOf none (zI fX1Y K) 0 0 4 [some (.ref 0), some (.ref 16), some (.int a0), some (.int a1), none, none, none, none] [] (fX1Y mm)) : ∀ (n : Nat) (v2 v3 v4 v5 : Int32) (m0 : Mu), lpX1_stateOf_y_33 K X0 n v2 v3 v4 v5 m0 → am_Ok mX1_stateOf none (zI fX1Y K) 0 0 33 [some (.ref 0), some (.ref 16), some (.int v2), some (.int v3), some (.int v4), some (.int v5), none, none] [] (fX1Y m0) := by
  intro n
  induction n with
  | zero => intro v2 v3 v4 v5 m0 hw; exact False.elim hw
  | succ n ih =>
    intro v2 v3 v4 v5 m0 hw
    unfold lpX1_stateOf_y_33 at hw
    refine am_iload dX1_stateOf_33 rfl ?_
    refine am_iload dX1_stateOf_35 rfl ?_
    refine am_icmp_ge 102 dX1_stateOf_37 (by decide) (fun c14 => ?_) (fun c14 => ?_)
    · have hw := hw.1 c14
      refine am_iinc' (lf := fun y9 => [some (.ref 0), some (.ref 16), some (.int v2), some (.int y9), some (.int v4), some (.int v5), none, none]) dX1_stateOf_102 rfl rfl rfl ic_1 (fun _ => rfl) (fun x15 ex15 => ?_)
      have hw := hw x15 ex15
      refine am_goto 4 dX1_stateOf_105 (by decide) ?_
      refine am_forget (ls' := [some (.ref 0), some (.ref 16), some (.int v2), some (.int x15), none, none, none, none]) [true, true, true, true, false, false, false, false] rfl ?_
      exact hX0 _ _ _ hw
    · have hw := hw.2 c14
      refine am_aload_n dX1_stateOf_40 rfl ?_
      refine am_aload_n dX1_stateOf_41 rfl ?_
      refine am_getf dX1_stateOf_42 fl_X1_18 rfl rfl ?_
      refine am_iload_n dX1_stateOf_45 rfl ?_
      refine am_iaload dX1_stateOf_46 rfl hw.1 ?_
      have hw := hw.2
      refine am_iload dX1_stateOf_47 rfl ?_
      refine am_partP [16, 17, 18, 19, 20, 21] fam_X3 dX1_stateOf_49 q_X1_stateOf_124 rfl (sX3_locomotiveAt hw) rfl rfl rfl rfl rfl rfl rfl rfl rfl (fun r16 hw => ?_)
      refine am_istore' (ls' := [some (.ref 0), some (.ref 16), some (.int v2), some (.int v3), some (.int v4), some (.int v5), some (.int r16), none]) dX1_stateOf_52 rfl rfl rfl ?_
      refine am_iload dX1_stateOf_54 rfl ?_
      refine am_if_lt 96 dX1_stateOf_56 (by decide) (fun c17 => ?_) (fun c17 => ?_)
      · have hw := hw.1 c17
        refine am_iinc' (lf := fun y9 => [some (.ref 0), some (.ref 16), some (.int v2), some (.int v3), some (.int v4), some (.int y9), some (.int r16), none]) dX1_stateOf_96 rfl rfl rfl ic_1 (fun _ => rfl) (fun x18 ex18 => ?_)
        have hw := hw x18 ex18
        refine am_goto 33 dX1_stateOf_99 (by decide) ?_
        refine am_forget (ls' := [some (.ref 0), some (.ref 16), some (.int v2), some (.int v3), some (.int v4), some (.int x18), none, none]) [true, true, true, true, true, true, false, false] rfl ?_
        exact ih _ _ _ _ _ hw
      · have hw := hw.2 c17
        refine am_iload dX1_stateOf_59 rfl ?_
        refine am_iconst dX1_stateOf_61 ic_3 ?_
        refine am_icmp_ge 96 dX1_stateOf_62 (by decide) (fun c19 => ?_) (fun c19 => ?_)
        · have hw := hw.1 c19
          refine am_iinc' (lf := fun y9 => [some (.ref 0), some (.ref 16), some (.int v2), some (.int v3), some (.int v4), some (.int y9), some (.int r16), none]) dX1_stateOf_96 rfl rfl rfl ic_1 (fun _ => rfl) (fun x20 ex20 => ?_)
          have hw := hw x20 ex20
          refine am_goto 33 dX1_stateOf_99 (by decide) ?_
          refine am_forget (ls' := [some (.ref 0), some (.ref 16), some (.int v2), some (.int v3), some (.int v4), some (.int x20), none, none]) [true, true, true, true, true, true, false, false] rfl ?_
          exact ih _ _ _ _ _ hw
        · have hw := hw.2 c19
          refine am_iconst dX1_stateOf_65 ic_1 ?_
          refine am_iload dX1_stateOf_66 rfl ?_
          refine am_ishl dX1_stateOf_68 ?_
          refine am_iconst dX1_stateOf_69 ic_1 ?_
          refine am_isub dX1_stateOf_70 ?_
          refine am_top (fun x21 ex21 => ?_)
          have hw := hw x21 ex21
          refine am_istore' (ls' := [some (.ref 0), some (.ref 16), some (.int v2), some (.int v3), some (.int v4), some (.int v5), some (.int r16), some (.int x21)]) dX1_stateOf_71 rfl rfl rfl ?_
          refine am_aload_n dX1_stateOf_73 rfl ?_
          refine am_getf dX1_stateOf_74 fl_X1_22 rfl rfl ?_
          refine am_iload dX1_stateOf_77 rfl ?_
          refine am_iload_n dX1_stateOf_79 rfl ?_
          refine am_iload_n dX1_stateOf_80 rfl ?_
          refine am_iload dX1_stateOf_81 rfl ?_
          refine am_iand dX1_stateOf_83 ?_
          refine am_stS dX1_stateOf_84 q_X1_stateOf_149 (sJ6_bitCount_0f7a4 hw) rfl rfl rfl rfl (fun r22 hw => ?_)
          refine am_iadd dX1_stateOf_87 ?_
          refine am_iastore' (F := fX1Y) (m := mu_up m0 2 (r16).toNatClampNeg (v3 + r22)) dX1_stateOf_88 rfl hw.1 rfl (fun m23 em23 => ?_)
          have hw := hw.2 m23 em23
          refine am_iload_n dX1_stateOf_89 rfl ?_
          refine am_iconst dX1_stateOf_90 ic_1 ?_
          refine am_iload dX1_stateOf_91 rfl ?_
          refine am_ishl dX1_stateOf_93 ?_
          refine am_ior dX1_stateOf_94 ?_
          refine am_top (fun x24 ex24 => ?_)
          have hw := hw x24 ex24
          refine am_istore_n' (ls' := [some (.ref 0), some (.ref 16), some (.int x24), some (.int v3), some (.int v4), some (.int v5), some (.int r16), some (.int x21)]) dX1_stateOf_95 rfl rfl rfl ?_
          refine am_iinc' (lf := fun y9 => [some (.ref 0), some (.ref 16), some (.int x24), some (.int v3), some (.int v4), some (.int y9), some (.int r16), some (.int x21)]) dX1_stateOf_96 rfl rfl rfl ic_1 (fun _ => rfl) (fun x25 ex25 => ?_)
          have hw := hw x25 ex25
          refine am_goto 33 dX1_stateOf_99 (by decide) ?_
          refine am_forget (ls' := [some (.ref 0), some (.ref 16), some (.int x24), some (.int v3), some (.int v4), some (.int x25), none, none]) [true, true, true, true, true, true, false, false] rfl ?_
          exact ih _ _ _ _ _ hw
def lpX1_stateOf_y_4 (K : Int32 → Mu → Prop)  : Nat → Int32 → Int32 → Mu → Prop
  | 0, _, _, _ => False
  | n + 1, v2, v3, m0 => (((m0 13 8) ≤ v3 → wJ9_min_7cf53 (m0 58 5) (3 : Int32) (fun r2 : Int32 => ∀ x3 : Int32, x3 = (r2 - (1 : Int32)) → (∃ n8 : Nat, lpX1_stateOf_y_122 K n8 (0 : Int32) x3 m0))) ∧ (¬ (m0 13 8) ≤ v3 → (((6 : Int32) ≤ v3 → wJ9_min_7cf53 (m0 58 5) (3 : Int32) (fun r10 : Int32 => ∀ x11 : Int32, x11 = (r10 - (1 : Int32)) → (∃ n12 : Nat, lpX1_stateOf_y_122 K n12 (0 : Int32) x11 m0))) ∧ (¬ (6 : Int32) ≤ v3 → (vp_in v3 6 ∧ wX3_countAt (m0 1 (v3).toNatClampNeg) (mu_sub m0 50) (fun r13 : Int32 => (∃ n26 : Nat, lpX1_stateOf_y_33 K (fun a0 a1 mm => lpX1_stateOf_y_4 K n a0 a1 mm) n26 v2 v3 r13 (0 : Int32) m0)))))))
set_option maxRecDepth 20000 in
theorem slpX1_stateOf_y_4 {K : Int32 → Mu → Prop} : ∀ (n : Nat) (v2 v3 : Int32) (m0 : Mu), lpX1_stateOf_y_4 K n v2 v3 m0 → am_Ok mX1_stateOf none (zI fX1Y K) 0 0 4 [some (.ref 0), some (.ref 16), some (.int v2), some (.int v3), none, none, none, none] [] (fX1Y m0) := by
  intro n
  induction n with
  | zero => intro v2 v3 m0 hw; exact False.elim hw
  | succ n ih =>
    intro v2 v3 m0 hw
    unfold lpX1_stateOf_y_4 at hw
    refine am_iload_n dX1_stateOf_4 rfl ?_
    refine am_aload_n dX1_stateOf_5 rfl ?_
    refine am_getf dX1_stateOf_6 fl_X1_109 rfl rfl ?_
    refine am_icmp_ge 108 dX1_stateOf_9 (by decide) (fun c1 => ?_) (fun c1 => ?_)
    · have hw := hw.1 c1
      refine am_iconst dX1_stateOf_108 ic_0 ?_
      refine am_istore_n' (ls' := [some (.ref 0), some (.ref 16), some (.int v2), some (.int (0 : Int32)), none, none, none, none]) dX1_stateOf_109 rfl rfl rfl ?_
      refine am_aload_n dX1_stateOf_110 rfl ?_
      refine am_getf dX1_stateOf_111 fl_X1_61 rfl rfl ?_
      refine am_iconst dX1_stateOf_114 ic_3 ?_
      refine am_stS dX1_stateOf_115 q_X1_stateOf_154 (sJ9_min_7cf53 hw) rfl rfl rfl rfl (fun r2 hw => ?_)
      refine am_iconst dX1_stateOf_118 ic_1 ?_
      refine am_isub dX1_stateOf_119 ?_
      refine am_top (fun x3 ex3 => ?_)
      have hw := hw x3 ex3
      refine am_istore' (ls' := [some (.ref 0), some (.ref 16), some (.int v2), some (.int (0 : Int32)), some (.int x3), none, none, none]) dX1_stateOf_120 rfl rfl rfl ?_
      obtain ⟨n8, hw⟩ := hw
      refine am_forget (ls' := [some (.ref 0), some (.ref 16), none, some (.int (0 : Int32)), some (.int x3), none, none, none]) [true, true, false, true, true, false, false, false] rfl ?_
      exact slpX1_stateOf_y_122  n8 _ _ _ hw
    · have hw := hw.2 c1
      refine am_iload_n dX1_stateOf_12 rfl ?_
      refine am_bipush dX1_stateOf_13 bc_6 ?_
      refine am_icmp_ge 108 dX1_stateOf_15 (by decide) (fun c9 => ?_) (fun c9 => ?_)
      · have hw := hw.1 c9
        refine am_iconst dX1_stateOf_108 ic_0 ?_
        refine am_istore_n' (ls' := [some (.ref 0), some (.ref 16), some (.int v2), some (.int (0 : Int32)), none, none, none, none]) dX1_stateOf_109 rfl rfl rfl ?_
        refine am_aload_n dX1_stateOf_110 rfl ?_
        refine am_getf dX1_stateOf_111 fl_X1_61 rfl rfl ?_
        refine am_iconst dX1_stateOf_114 ic_3 ?_
        refine am_stS dX1_stateOf_115 q_X1_stateOf_154 (sJ9_min_7cf53 hw) rfl rfl rfl rfl (fun r10 hw => ?_)
        refine am_iconst dX1_stateOf_118 ic_1 ?_
        refine am_isub dX1_stateOf_119 ?_
        refine am_top (fun x11 ex11 => ?_)
        have hw := hw x11 ex11
        refine am_istore' (ls' := [some (.ref 0), some (.ref 16), some (.int v2), some (.int (0 : Int32)), some (.int x11), none, none, none]) dX1_stateOf_120 rfl rfl rfl ?_
        obtain ⟨n12, hw⟩ := hw
        refine am_forget (ls' := [some (.ref 0), some (.ref 16), none, some (.int (0 : Int32)), some (.int x11), none, none, none]) [true, true, false, true, true, false, false, false] rfl ?_
        exact slpX1_stateOf_y_122  n12 _ _ _ hw
      · have hw := hw.2 c9
        refine am_aload_n dX1_stateOf_18 rfl ?_
        refine am_aload_n dX1_stateOf_19 rfl ?_
        refine am_getf dX1_stateOf_20 fl_X1_18 rfl rfl ?_
        refine am_iload_n dX1_stateOf_23 rfl ?_
        refine am_iaload dX1_stateOf_24 rfl hw.1 ?_
        have hw := hw.2
        refine am_partP [16, 17, 18, 19, 20, 21] fam_X3 dX1_stateOf_25 q_X1_stateOf_142 rfl (sX3_countAt hw) rfl rfl rfl rfl rfl rfl rfl rfl rfl (fun r13 hw => ?_)
        refine am_istore' (ls' := [some (.ref 0), some (.ref 16), some (.int v2), some (.int v3), some (.int r13), none, none, none]) dX1_stateOf_28 rfl rfl rfl ?_
        refine am_iconst dX1_stateOf_30 ic_0 ?_
        refine am_istore' (ls' := [some (.ref 0), some (.ref 16), some (.int v2), some (.int v3), some (.int r13), some (.int (0 : Int32)), none, none]) dX1_stateOf_31 rfl rfl rfl ?_
        obtain ⟨n26, hw⟩ := hw
        refine am_forget (ls' := [some (.ref 0), some (.ref 16), some (.int v2), some (.int v3), some (.int r13), some (.int (0 : Int32)), none, none]) [true, true, true, true, true, true, false, false] rfl ?_
        exact slpX1_stateOf_y_33 (fun a0 a1 mm hq => ih a0 a1 mm hq) n26 _ _ _ _ _ hw
def wX1_stateOf_y (m0 : Mu) (K : Int32 → Mu → Prop) : Prop := (∃ n27 : Nat, lpX1_stateOf_y_4 K n27 (0 : Int32) (0 : Int32) m0)
set_option maxRecDepth 20000 in
theorem sX1_stateOf_y {m0 : Mu} {K : Int32 → Mu → Prop} (hw : wX1_stateOf_y m0 K) : am_Met mX1_stateOf [.ref 0, .ref 16] (fX1Y m0) 0 0 (zI fX1Y K) := by
  unfold wX1_stateOf_y at hw
  refine am_Met.of2 (ls := [some (.ref 0), some (.ref 16), none, none, none, none, none, none]) pf_X1_stateOf rfl rfl rfl rfl ?_
  refine am_iconst dX1_stateOf_0 ic_0 ?_
  refine am_istore_n' (ls' := [some (.ref 0), some (.ref 16), some (.int (0 : Int32)), none, none, none, none, none]) dX1_stateOf_1 rfl rfl rfl ?_
  refine am_iconst dX1_stateOf_2 ic_0 ?_
  refine am_istore_n' (ls' := [some (.ref 0), some (.ref 16), some (.int (0 : Int32)), some (.int (0 : Int32)), none, none, none, none]) dX1_stateOf_3 rfl rfl rfl ?_
  obtain ⟨n27, hw⟩ := hw
  refine am_forget (ls' := [some (.ref 0), some (.ref 16), some (.int (0 : Int32)), some (.int (0 : Int32)), none, none, none, none]) [true, true, true, true, false, false, false, false] rfl ?_
  exact slpX1_stateOf_y_4  n27 _ _ _ hw

def wX1_costOf (a1 : Int32) (m0 : Mu) (K : Int32 → Prop) : Prop := ((a1 < 0 → K (1000000000 : Int32)) ∧ (¬ a1 < 0 → (((4032 : Int32) ≤ a1 → K (1000000000 : Int32)) ∧ (¬ (4032 : Int32) ≤ a1 → (vp_in a1 4032 ∧ K (m0 5 (a1).toNatClampNeg))))))
set_option maxRecDepth 20000 in
theorem sX1_costOf {a1 : Int32} {m0 : Mu} {K : Int32 → Prop} (hw : wX1_costOf a1 m0 K) : am_Met mX1_costOf [.ref 0, .int a1] (fX1 m0) 0 0 (zP (fX1 m0) K) := by
  unfold wX1_costOf at hw
  refine am_Met.of2 (ls := [some (.ref 0), some (.int a1)]) pf_X1_costOf rfl rfl rfl rfl ?_
  refine am_iload_n dX1_costOf_0 rfl ?_
  refine am_if_lt 20 dX1_costOf_1 (by decide) (fun c1 => ?_) (fun c1 => ?_)
  · have hw := hw.1 c1
    refine am_ldc dX1_costOf_20 wd_463 ?_
    exact am_ireturn dX1_costOf_22 rfl ⟨_, rfl, rfl, hw⟩
  · have hw := hw.2 c1
    refine am_iload_n dX1_costOf_4 rfl ?_
    refine am_sipush dX1_costOf_5 sc_4032 ?_
    refine am_icmp_ge 20 dX1_costOf_8 (by decide) (fun c2 => ?_) (fun c2 => ?_)
    · have hw := hw.1 c2
      refine am_ldc dX1_costOf_20 wd_463 ?_
      exact am_ireturn dX1_costOf_22 rfl ⟨_, rfl, rfl, hw⟩
    · have hw := hw.2 c2
      refine am_aload_n dX1_costOf_11 rfl ?_
      refine am_getf dX1_costOf_12 fl_X1_31 rfl rfl ?_
      refine am_iload_n dX1_costOf_15 rfl ?_
      refine am_iaload dX1_costOf_16 rfl hw.1 ?_
      have hw := hw.2
      refine am_goto 22 dX1_costOf_17 (by decide) ?_
      exact am_ireturn dX1_costOf_22 rfl ⟨_, rfl, rfl, hw⟩

def wX1_nearerQueue (m0 : Mu) (K : Nat → Prop) : Prop := wX2_first (mu_sub m0 30) (fun r1 : Int32 => wX1_costOf r1 m0 (fun r2 : Int32 => wX2_first (mu_sub m0 40) (fun r3 : Int32 => wX1_costOf r3 m0 (fun r4 : Int32 => ((r4 ≤ r2 → K 14) ∧ (¬ r4 ≤ r2 → K 12))))))
set_option maxRecDepth 20000 in
theorem sX1_nearerQueue {m0 : Mu} {K : Nat → Prop} (hw : wX1_nearerQueue m0 K) : am_Met mX1_nearerQueue [.ref 0] (fX1 m0) 0 0 (zQ (fX1 m0) K) := by
  unfold wX1_nearerQueue at hw
  refine am_Met.of2 (ls := [some (.ref 0)]) pf_X1_nearerQueue rfl rfl rfl rfl ?_
  refine am_aload_n dX1_nearerQueue_0 rfl ?_
  refine am_aload_n dX1_nearerQueue_1 rfl ?_
  refine am_getf dX1_nearerQueue_2 fl_X1_37 rfl rfl ?_
  refine am_partP [12, 13] fam_X2 dX1_nearerQueue_5 q_X1_nearerQueue_89 rfl (sX2_first hw) rfl rfl rfl rfl rfl rfl rfl rfl rfl (fun r1 hw => ?_)
  refine am_selfP fam_X1 rfl dX1_nearerQueue_8 q_X1_nearerQueue_93 rfl (sX1_costOf hw) rfl rfl rfl rfl rfl (fun r2 hw => ?_)
  refine am_aload_n dX1_nearerQueue_11 rfl ?_
  refine am_aload_n dX1_nearerQueue_12 rfl ?_
  refine am_getf dX1_nearerQueue_13 fl_X1_41 rfl rfl ?_
  refine am_partP [14, 15] fam_X2 dX1_nearerQueue_16 q_X1_nearerQueue_89 rfl (sX2_first hw) rfl rfl rfl rfl rfl rfl rfl rfl rfl (fun r3 hw => ?_)
  refine am_selfP fam_X1 rfl dX1_nearerQueue_19 q_X1_nearerQueue_93 rfl (sX1_costOf hw) rfl rfl rfl rfl rfl (fun r4 hw => ?_)
  refine am_icmp_ge 32 dX1_nearerQueue_22 (by decide) (fun c5 => ?_) (fun c5 => ?_)
  · have hw := hw.1 c5
    refine am_aload_n dX1_nearerQueue_32 rfl ?_
    refine am_getf dX1_nearerQueue_33 fl_X1_41 rfl rfl ?_
    exact am_areturn dX1_nearerQueue_36 rfl ⟨_, rfl, rfl, Nat.le_of_ble_eq_true rfl, hw⟩
  · have hw := hw.2 c5
    refine am_aload_n dX1_nearerQueue_25 rfl ?_
    refine am_getf dX1_nearerQueue_26 fl_X1_37 rfl rfl ?_
    refine am_goto 36 dX1_nearerQueue_29 (by decide) ?_
    exact am_areturn dX1_nearerQueue_36 rfl ⟨_, rfl, rfl, Nat.le_of_ble_eq_true rfl, hw⟩

def wX1_addNeighbour (a1 a2 : Int32) (m0 : Mu) (K : Mu → Prop) : Prop := (((m0 13 10) < 0 → K m0) ∧ (¬ (m0 13 10) < 0 → (((14 : Int32) ≤ (m0 13 10) → K m0) ∧ (¬ (14 : Int32) ≤ (m0 13 10) → (vp_in (m0 13 10) 14 ∧ ∀ m3 : Mu, m3 = mu_up m0 3 ((m0 13 10)).toNatClampNeg a1 → (vp_in (m3 13 10) 14 ∧ ∀ m4 : Mu, m4 = mu_up m3 4 ((m3 13 10)).toNatClampNeg a2 → ∀ m5 : Mu, m5 = mu_up m4 13 10 ((m4 13 10) + (1 : Int32)) → K m5))))))
set_option maxRecDepth 20000 in
theorem sX1_addNeighbour {a1 a2 : Int32} {m0 : Mu} {K : Mu → Prop} (hw : wX1_addNeighbour a1 a2 m0 K) : am_Met mX1_addNeighbour [.ref 0, .int a1, .int a2] (fX1 m0) 0 0 (zV fX1 K) := by
  unfold wX1_addNeighbour at hw
  refine am_Met.of2 (ls := [some (.ref 0), some (.int a1), some (.int a2)]) pf_X1_addNeighbour rfl rfl rfl rfl ?_
  refine am_aload_n dX1_addNeighbour_0 rfl ?_
  refine am_getf dX1_addNeighbour_1 fl_X1_160 rfl rfl ?_
  refine am_if_lt 46 dX1_addNeighbour_4 (by decide) (fun c1 => ?_) (fun c1 => ?_)
  · have hw := hw.1 c1
    exact am_vreturn dX1_addNeighbour_46 rfl ⟨_, rfl, rfl, hw⟩
  · have hw := hw.2 c1
    refine am_aload_n dX1_addNeighbour_7 rfl ?_
    refine am_getf dX1_addNeighbour_8 fl_X1_160 rfl rfl ?_
    refine am_bipush dX1_addNeighbour_11 bc_14 ?_
    refine am_icmp_ge 46 dX1_addNeighbour_13 (by decide) (fun c2 => ?_) (fun c2 => ?_)
    · have hw := hw.1 c2
      exact am_vreturn dX1_addNeighbour_46 rfl ⟨_, rfl, rfl, hw⟩
    · have hw := hw.2 c2
      refine am_aload_n dX1_addNeighbour_16 rfl ?_
      refine am_getf dX1_addNeighbour_17 fl_X1_25 rfl rfl ?_
      refine am_aload_n dX1_addNeighbour_20 rfl ?_
      refine am_getf dX1_addNeighbour_21 fl_X1_160 rfl rfl ?_
      refine am_iload_n dX1_addNeighbour_24 rfl ?_
      refine am_iastore' (F := fX1) (m := mu_up m0 3 ((m0 13 10)).toNatClampNeg a1) dX1_addNeighbour_25 rfl hw.1 rfl (fun m3 em3 => ?_)
      have hw := hw.2 m3 em3
      refine am_aload_n dX1_addNeighbour_26 rfl ?_
      refine am_getf dX1_addNeighbour_27 fl_X1_28 rfl rfl ?_
      refine am_aload_n dX1_addNeighbour_30 rfl ?_
      refine am_getf dX1_addNeighbour_31 fl_X1_160 rfl rfl ?_
      refine am_iload_n dX1_addNeighbour_34 rfl ?_
      refine am_iastore' (F := fX1) (m := mu_up m3 4 ((m3 13 10)).toNatClampNeg a2) dX1_addNeighbour_35 rfl hw.1 rfl (fun m4 em4 => ?_)
      have hw := hw.2 m4 em4
      refine am_aload_n dX1_addNeighbour_36 rfl ?_
      refine am_dup dX1_addNeighbour_37 rfl ?_
      refine am_getf dX1_addNeighbour_38 fl_X1_160 rfl rfl ?_
      refine am_iconst dX1_addNeighbour_41 ic_1 ?_
      refine am_iadd dX1_addNeighbour_42 ?_
      refine am_putf' (F := fX1) (m := mu_up m4 13 10 ((m4 13 10) + (1 : Int32))) dX1_addNeighbour_43 fp_X1_160 rfl rfl rfl (fun m5 em5 => ?_)
      have hw := hw m5 em5
      exact am_vreturn dX1_addNeighbour_46 rfl ⟨_, rfl, rfl, hw⟩

def lpX1_addMovements_22 (K : Mu → Prop)  : Nat → Int32 → Int32 → Int32 → Mu → Prop
  | 0, _, _, _, _ => False
  | n + 1, v1, v2, v3, m0 => ((v2 < v3 → K m0) ∧ (¬ v2 < v3 → wX3_movementError v1 v3 (mu_sub m0 20) (fun r5 : Int32 => ((r5 = 0 → wX3_shift v1 v3 (mu_sub m0 20) (fun k7 : Mu => ∀ m8 : Mu, m8 = mu_put m0 20 9 k7 → wX1_stateOf_v m8 (fun (r9 : Int32) (m10 : Mu) => wX1_addNeighbour (v1 + v3) r9 m10 (fun m11 : Mu => wX4_reverseOf v1 (fun r12 : Int32 => wX3_shift r12 v3 (mu_sub m11 20) (fun k13 : Mu => ∀ m14 : Mu, m14 = mu_put m11 20 9 k13 → ∀ x15 : Int32, x15 = v3 + (1 : Int32) → lpX1_addMovements_22 K n v1 v2 x15 m14)))))) ∧ (¬ r5 = 0 → ∀ x16 : Int32, x16 = v3 + (1 : Int32) → lpX1_addMovements_22 K n v1 v2 x16 m0)))))
set_option maxRecDepth 20000 in
theorem slpX1_addMovements_22 {K : Mu → Prop} : ∀ (n : Nat) (v1 v2 v3 : Int32) (m0 : Mu), lpX1_addMovements_22 K n v1 v2 v3 m0 → am_Ok mX1_addMovements none (zV fX1 K) 0 0 22 [some (.ref 0), some (.int v1), some (.int v2), some (.int v3)] [] (fX1 m0) := by
  intro n
  induction n with
  | zero => intro v1 v2 v3 m0 hw; exact False.elim hw
  | succ n ih =>
    intro v1 v2 v3 m0 hw
    unfold lpX1_addMovements_22 at hw
    refine am_iload_n dX1_addMovements_22 rfl ?_
    refine am_iload_n dX1_addMovements_23 rfl ?_
    refine am_icmp_gt 81 dX1_addMovements_24 (by decide) (fun c4 => ?_) (fun c4 => ?_)
    · have hw := hw.1 c4
      exact am_vreturn dX1_addMovements_81 rfl ⟨_, rfl, rfl, hw⟩
    · have hw := hw.2 c4
      refine am_aload_n dX1_addMovements_27 rfl ?_
      refine am_getf dX1_addMovements_28 fl_X1_12 rfl rfl ?_
      refine am_iload_n dX1_addMovements_31 rfl ?_
      refine am_iload_n dX1_addMovements_32 rfl ?_
      refine am_partP [1, 2, 3, 4, 5, 6] fam_X3 dX1_addMovements_33 q_X1_addMovements_178 rfl (sX3_movementError hw) rfl rfl rfl rfl rfl rfl rfl rfl rfl (fun r5 hw => ?_)
      refine am_if_ne 75 dX1_addMovements_36 (by decide) (fun c6 => ?_) (fun c6 => ?_)
      · have hw := hw.1 c6
        refine am_aload_n dX1_addMovements_39 rfl ?_
        refine am_getf dX1_addMovements_40 fl_X1_12 rfl rfl ?_
        refine am_iload_n dX1_addMovements_43 rfl ?_
        refine am_iload_n dX1_addMovements_44 rfl ?_
        refine am_partU [1, 2, 3, 4, 5, 6] fam_X3 dX1_addMovements_45 q_X1_addMovements_181 rfl (sX3_shift hw) rfl rfl rfl rfl rfl rfl rfl rfl rfl (fun k7 hw => ?_)
        refine am_hm (F := fX1) (m := mu_put m0 20 9 k7) rfl (fun m8 em8 => ?_)
        have hw := hw m8 em8
        refine am_aload_n dX1_addMovements_48 rfl ?_
        refine am_iload_n dX1_addMovements_49 rfl ?_
        refine am_iload_n dX1_addMovements_50 rfl ?_
        refine am_iadd dX1_addMovements_51 ?_
        refine am_aload_n dX1_addMovements_52 rfl ?_
        refine am_aload_n dX1_addMovements_53 rfl ?_
        refine am_getf dX1_addMovements_54 fl_X1_12 rfl rfl ?_
        refine am_selfI fam_X1 rfl dX1_addMovements_57 q_X1_addMovements_81 rfl (sX1_stateOf_v hw) rfl rfl rfl rfl rfl (fun r9 m10 hw => ?_)
        refine am_selfU fam_X1 rfl dX1_addMovements_60 q_X1_addMovements_166 rfl (sX1_addNeighbour hw) rfl rfl rfl rfl rfl (fun m11 hw => ?_)
        refine am_aload_n dX1_addMovements_63 rfl ?_
        refine am_getf dX1_addMovements_64 fl_X1_12 rfl rfl ?_
        refine am_iload_n dX1_addMovements_67 rfl ?_
        refine am_stS dX1_addMovements_68 q_X1_addMovements_184 (sX4_reverseOf hw) rfl rfl rfl rfl (fun r12 hw => ?_)
        refine am_iload_n dX1_addMovements_71 rfl ?_
        refine am_partU [1, 2, 3, 4, 5, 6] fam_X3 dX1_addMovements_72 q_X1_addMovements_181 rfl (sX3_shift hw) rfl rfl rfl rfl rfl rfl rfl rfl rfl (fun k13 hw => ?_)
        refine am_hm (F := fX1) (m := mu_put m11 20 9 k13) rfl (fun m14 em14 => ?_)
        have hw := hw m14 em14
        refine am_iinc' (lf := fun y9 => [some (.ref 0), some (.int v1), some (.int v2), some (.int y9)]) dX1_addMovements_75 rfl rfl rfl ic_1 (fun _ => rfl) (fun x15 ex15 => ?_)
        have hw := hw x15 ex15
        refine am_goto 22 dX1_addMovements_78 (by decide) ?_
        refine am_forget (ls' := [some (.ref 0), some (.int v1), some (.int v2), some (.int x15)]) [true, true, true, true] rfl ?_
        exact ih _ _ _ _ hw
      · have hw := hw.2 c6
        refine am_iinc' (lf := fun y9 => [some (.ref 0), some (.int v1), some (.int v2), some (.int y9)]) dX1_addMovements_75 rfl rfl rfl ic_1 (fun _ => rfl) (fun x16 ex16 => ?_)
        have hw := hw x16 ex16
        refine am_goto 22 dX1_addMovements_78 (by decide) ?_
        refine am_forget (ls' := [some (.ref 0), some (.int v1), some (.int v2), some (.int x16)]) [true, true, true, true] rfl ?_
        exact ih _ _ _ _ hw
def wX1_addMovements (a1 : Int32) (m0 : Mu) (K : Mu → Prop) : Prop := wX3_sourceOf a1 (mu_sub m0 20) (fun r1 : Int32 => wX3_countAt r1 (mu_sub m0 20) (fun r2 : Int32 => wJ9_min_7cf53 r2 (3 : Int32) (fun r3 : Int32 => (∃ n17 : Nat, lpX1_addMovements_22 K n17 a1 r3 (1 : Int32) m0))))
set_option maxRecDepth 20000 in
theorem sX1_addMovements {a1 : Int32} {m0 : Mu} {K : Mu → Prop} (hw : wX1_addMovements a1 m0 K) : am_Met mX1_addMovements [.ref 0, .int a1] (fX1 m0) 0 0 (zV fX1 K) := by
  unfold wX1_addMovements at hw
  refine am_Met.of2 (ls := [some (.ref 0), some (.int a1), none, none]) pf_X1_addMovements rfl rfl rfl rfl ?_
  refine am_aload_n dX1_addMovements_0 rfl ?_
  refine am_getf dX1_addMovements_1 fl_X1_12 rfl rfl ?_
  refine am_aload_n dX1_addMovements_4 rfl ?_
  refine am_getf dX1_addMovements_5 fl_X1_12 rfl rfl ?_
  refine am_iload_n dX1_addMovements_8 rfl ?_
  refine am_partP [1, 2, 3, 4, 5, 6] fam_X3 dX1_addMovements_9 q_X1_addMovements_175 rfl (sX3_sourceOf hw) rfl rfl rfl rfl rfl rfl rfl rfl rfl (fun r1 hw => ?_)
  refine am_partP [1, 2, 3, 4, 5, 6] fam_X3 dX1_addMovements_12 q_X1_addMovements_142 rfl (sX3_countAt hw) rfl rfl rfl rfl rfl rfl rfl rfl rfl (fun r2 hw => ?_)
  refine am_iconst dX1_addMovements_15 ic_3 ?_
  refine am_stS dX1_addMovements_16 q_X1_addMovements_154 (sJ9_min_7cf53 hw) rfl rfl rfl rfl (fun r3 hw => ?_)
  refine am_istore_n' (ls' := [some (.ref 0), some (.int a1), some (.int r3), none]) dX1_addMovements_19 rfl rfl rfl ?_
  refine am_iconst dX1_addMovements_20 ic_1 ?_
  refine am_istore_n' (ls' := [some (.ref 0), some (.int a1), some (.int r3), some (.int (1 : Int32))]) dX1_addMovements_21 rfl rfl rfl ?_
  obtain ⟨n17, hw⟩ := hw
  refine am_forget (ls' := [some (.ref 0), some (.int a1), some (.int r3), some (.int (1 : Int32))]) [true, true, true, true] rfl ?_
  exact slpX1_addMovements_22  n17 _ _ _ _ hw

def jnX1_listNeighbours_111 (K : Mu → Prop) (v1 : Int32) (m0 : Mu) : Prop := wX1_showRows v1 m0 (fun m14 : Mu => wX1_addMovements (10 : Int32) m14 (fun m15 : Mu => wX1_addMovements (20 : Int32) m15 (fun m16 : Mu => wX1_addMovements (30 : Int32) m16 (fun m17 : Mu => wX1_addMovements (40 : Int32) m17 (fun m18 : Mu => K m18)))))
set_option maxRecDepth 20000 in
theorem sjnX1_listNeighbours_111 {m0 : Mu} {K : Mu → Prop} {v1 : Int32} (hw : jnX1_listNeighbours_111 K v1 m0) : am_Ok mX1_listNeighbours none (zV fX1 K) 0 0 111 [some (.ref 0), some (.int v1), none, none, none] [] (fX1 m0) := by
  unfold jnX1_listNeighbours_111 at hw
  refine am_aload_n dX1_listNeighbours_111 rfl ?_
  refine am_iload_n dX1_listNeighbours_112 rfl ?_
  refine am_selfU fam_X1 rfl dX1_listNeighbours_113 q_X1_listNeighbours_121 rfl (sX1_showRows hw) rfl rfl rfl rfl rfl (fun m14 hw => ?_)
  refine am_aload_n dX1_listNeighbours_116 rfl ?_
  refine am_bipush dX1_listNeighbours_117 bc_10 ?_
  refine am_selfU fam_X1 rfl dX1_listNeighbours_119 q_X1_listNeighbours_172 rfl (sX1_addMovements hw) rfl rfl rfl rfl rfl (fun m15 hw => ?_)
  refine am_aload_n dX1_listNeighbours_122 rfl ?_
  refine am_bipush dX1_listNeighbours_123 bc_20 ?_
  refine am_selfU fam_X1 rfl dX1_listNeighbours_125 q_X1_listNeighbours_172 rfl (sX1_addMovements hw) rfl rfl rfl rfl rfl (fun m16 hw => ?_)
  refine am_aload_n dX1_listNeighbours_128 rfl ?_
  refine am_bipush dX1_listNeighbours_129 bc_30 ?_
  refine am_selfU fam_X1 rfl dX1_listNeighbours_131 q_X1_listNeighbours_172 rfl (sX1_addMovements hw) rfl rfl rfl rfl rfl (fun m17 hw => ?_)
  refine am_aload_n dX1_listNeighbours_134 rfl ?_
  refine am_bipush dX1_listNeighbours_135 bc_40 ?_
  refine am_selfU fam_X1 rfl dX1_listNeighbours_137 q_X1_listNeighbours_172 rfl (sX1_addMovements hw) rfl rfl rfl rfl rfl (fun m18 hw => ?_)
  exact am_vreturn dX1_listNeighbours_140 rfl ⟨_, rfl, rfl, hw⟩
def jnX1_listNeighbours_100 (K : Mu → Prop) (v1 v3 u0 : Int32) (m0 : Mu) : Prop := ((v3 = 0 → ((u0 = 0 → K m0) ∧ (¬ u0 = 0 → jnX1_listNeighbours_111 K v1 m0))) ∧ (¬ v3 = 0 → jnX1_listNeighbours_111 K v1 m0))
set_option maxRecDepth 20000 in
theorem sjnX1_listNeighbours_100 {m0 : Mu} {K : Mu → Prop} {v1 v3 u0 : Int32} (hw : jnX1_listNeighbours_100 K v1 v3 u0 m0) : am_Ok mX1_listNeighbours none (zV fX1 K) 0 0 100 [some (.ref 0), some (.int v1), none, some (.int v3), none] [.int u0] (fX1 m0) := by
  unfold jnX1_listNeighbours_100 at hw
  refine am_istore' (ls' := [some (.ref 0), some (.int v1), none, some (.int v3), some (.int u0)]) dX1_listNeighbours_100 rfl rfl rfl ?_
  refine am_iload_n dX1_listNeighbours_102 rfl ?_
  refine am_if_ne 111 dX1_listNeighbours_103 (by decide) (fun c12 => ?_) (fun c12 => ?_)
  · have hw := hw.1 c12
    refine am_iload dX1_listNeighbours_106 rfl ?_
    refine am_if_eq 140 dX1_listNeighbours_108 (by decide) (fun c13 => ?_) (fun c13 => ?_)
    · have hw := hw.1 c13
      exact am_vreturn dX1_listNeighbours_140 rfl ⟨_, rfl, rfl, hw⟩
    · have hw := hw.2 c13
      refine am_forget (ls' := [some (.ref 0), some (.int v1), none, none, none]) [true, true, false, false, false] rfl ?_
      exact sjnX1_listNeighbours_111  hw
  · have hw := hw.2 c12
    refine am_forget (ls' := [some (.ref 0), some (.int v1), none, none, none]) [true, true, false, false, false] rfl ?_
    exact sjnX1_listNeighbours_111  hw
def jnX1_listNeighbours_76 (K : Mu → Prop) (v1 u0 : Int32) (m0 : Mu) : Prop := wX3_positionAt (1 : Int32) (mu_sub m0 20) (fun r9 : Int32 => wX3_lengthAt r9 (mu_sub m0 20) (fun r10 : Int32 => ((r10 ≤ 0 → jnX1_listNeighbours_100 K v1 u0 (0 : Int32) m0) ∧ (¬ r10 ≤ 0 → jnX1_listNeighbours_100 K v1 u0 (1 : Int32) m0))))
set_option maxRecDepth 20000 in
theorem sjnX1_listNeighbours_76 {m0 : Mu} {K : Mu → Prop} {v1 u0 : Int32} (hw : jnX1_listNeighbours_76 K v1 u0 m0) : am_Ok mX1_listNeighbours none (zV fX1 K) 0 0 76 [some (.ref 0), some (.int v1), none, none, none] [.int u0] (fX1 m0) := by
  unfold jnX1_listNeighbours_76 at hw
  refine am_istore_n' (ls' := [some (.ref 0), some (.int v1), none, some (.int u0), none]) dX1_listNeighbours_76 rfl rfl rfl ?_
  refine am_aload_n dX1_listNeighbours_77 rfl ?_
  refine am_getf dX1_listNeighbours_78 fl_X1_12 rfl rfl ?_
  refine am_aload_n dX1_listNeighbours_81 rfl ?_
  refine am_getf dX1_listNeighbours_82 fl_X1_12 rfl rfl ?_
  refine am_iconst dX1_listNeighbours_85 ic_1 ?_
  refine am_partP [1, 2, 3, 4, 5, 6] fam_X3 dX1_listNeighbours_86 q_X1_listNeighbours_169 rfl (sX3_positionAt hw) rfl rfl rfl rfl rfl rfl rfl rfl rfl (fun r9 hw => ?_)
  refine am_partP [1, 2, 3, 4, 5, 6] fam_X3 dX1_listNeighbours_89 q_X1_listNeighbours_112 rfl (sX3_lengthAt hw) rfl rfl rfl rfl rfl rfl rfl rfl rfl (fun r10 hw => ?_)
  refine am_if_le 99 dX1_listNeighbours_92 (by decide) (fun c11 => ?_) (fun c11 => ?_)
  · have hw := hw.1 c11
    refine am_iconst dX1_listNeighbours_99 ic_0 ?_
    refine am_forget (ls' := [some (.ref 0), some (.int v1), none, some (.int u0), none]) [true, true, false, true, false] rfl ?_
    exact sjnX1_listNeighbours_100  hw
  · have hw := hw.2 c11
    refine am_iconst dX1_listNeighbours_95 ic_1 ?_
    refine am_goto 100 dX1_listNeighbours_96 (by decide) ?_
    refine am_forget (ls' := [some (.ref 0), some (.int v1), none, some (.int u0), none]) [true, true, false, true, false] rfl ?_
    exact sjnX1_listNeighbours_100  hw
def wX1_listNeighbours (a1 : Int32) (m0 : Mu) (K : Mu → Prop) : Prop := ∀ m1 : Mu, m1 = mu_up m0 13 10 (0 : Int32) → wJ9_floorMod_7cf53 a1 (12 : Int32) (fun r2 : Int32 => wX1_addNeighbour (0 : Int32) ((a1 - r2) + (am_rem (r2 + (1 : Int32)) (12 : Int32))) m1 (fun m3 : Mu => wX1_addNeighbour (1 : Int32) ((a1 - r2) + (am_rem ((r2 + (12 : Int32)) - (1 : Int32)) (12 : Int32))) m3 (fun m4 : Mu => ∀ m5 : Mu, m5 = mu_up m4 28 7 r2 → wX3_positionAt (0 : Int32) (mu_sub m5 20) (fun r6 : Int32 => wX3_lengthAt r6 (mu_sub m5 20) (fun r7 : Int32 => ((r7 ≤ 0 → jnX1_listNeighbours_76 K a1 (0 : Int32) m5) ∧ (¬ r7 ≤ 0 → jnX1_listNeighbours_76 K a1 (1 : Int32) m5)))))))
set_option maxRecDepth 20000 in
theorem sX1_listNeighbours {a1 : Int32} {m0 : Mu} {K : Mu → Prop} (hw : wX1_listNeighbours a1 m0 K) : am_Met mX1_listNeighbours [.ref 0, .int a1] (fX1 m0) 0 0 (zV fX1 K) := by
  unfold wX1_listNeighbours at hw
  refine am_Met.of2 (ls := [some (.ref 0), some (.int a1), none, none, none]) pf_X1_listNeighbours rfl rfl rfl rfl ?_
  refine am_aload_n dX1_listNeighbours_0 rfl ?_
  refine am_iconst dX1_listNeighbours_1 ic_0 ?_
  refine am_putf' (F := fX1) (m := mu_up m0 13 10 (0 : Int32)) dX1_listNeighbours_2 fp_X1_160 rfl rfl rfl (fun m1 em1 => ?_)
  have hw := hw m1 em1
  refine am_iload_n dX1_listNeighbours_5 rfl ?_
  refine am_bipush dX1_listNeighbours_6 bc_12 ?_
  refine am_stS dX1_listNeighbours_8 q_X1_listNeighbours_163 (sJ9_floorMod_7cf53 hw) rfl rfl rfl rfl (fun r2 hw => ?_)
  refine am_istore_n' (ls' := [some (.ref 0), some (.int a1), some (.int r2), none, none]) dX1_listNeighbours_11 rfl rfl rfl ?_
  refine am_aload_n dX1_listNeighbours_12 rfl ?_
  refine am_iconst dX1_listNeighbours_13 ic_0 ?_
  refine am_iload_n dX1_listNeighbours_14 rfl ?_
  refine am_iload_n dX1_listNeighbours_15 rfl ?_
  refine am_isub dX1_listNeighbours_16 ?_
  refine am_iload_n dX1_listNeighbours_17 rfl ?_
  refine am_iconst dX1_listNeighbours_18 ic_1 ?_
  refine am_iadd dX1_listNeighbours_19 ?_
  refine am_bipush dX1_listNeighbours_20 bc_12 ?_
  refine am_irem' dX1_listNeighbours_22 nz_12 ?_
  refine am_iadd dX1_listNeighbours_23 ?_
  refine am_selfU fam_X1 rfl dX1_listNeighbours_24 q_X1_listNeighbours_166 rfl (sX1_addNeighbour hw) rfl rfl rfl rfl rfl (fun m3 hw => ?_)
  refine am_aload_n dX1_listNeighbours_27 rfl ?_
  refine am_iconst dX1_listNeighbours_28 ic_1 ?_
  refine am_iload_n dX1_listNeighbours_29 rfl ?_
  refine am_iload_n dX1_listNeighbours_30 rfl ?_
  refine am_isub dX1_listNeighbours_31 ?_
  refine am_iload_n dX1_listNeighbours_32 rfl ?_
  refine am_bipush dX1_listNeighbours_33 bc_12 ?_
  refine am_iadd dX1_listNeighbours_35 ?_
  refine am_iconst dX1_listNeighbours_36 ic_1 ?_
  refine am_isub dX1_listNeighbours_37 ?_
  refine am_bipush dX1_listNeighbours_38 bc_12 ?_
  refine am_irem' dX1_listNeighbours_40 nz_12 ?_
  refine am_iadd dX1_listNeighbours_41 ?_
  refine am_selfU fam_X1 rfl dX1_listNeighbours_42 q_X1_listNeighbours_166 rfl (sX1_addNeighbour hw) rfl rfl rfl rfl rfl (fun m4 hw => ?_)
  refine am_aload_n dX1_listNeighbours_45 rfl ?_
  refine am_getf dX1_listNeighbours_46 fl_X1_12 rfl rfl ?_
  refine am_iload_n dX1_listNeighbours_49 rfl ?_
  refine am_putf' (F := fX1) (m := mu_up m4 28 7 r2) dX1_listNeighbours_50 fp_X1_157 rfl rfl rfl (fun m5 em5 => ?_)
  have hw := hw m5 em5
  refine am_aload_n dX1_listNeighbours_53 rfl ?_
  refine am_getf dX1_listNeighbours_54 fl_X1_12 rfl rfl ?_
  refine am_aload_n dX1_listNeighbours_57 rfl ?_
  refine am_getf dX1_listNeighbours_58 fl_X1_12 rfl rfl ?_
  refine am_iconst dX1_listNeighbours_61 ic_0 ?_
  refine am_partP [1, 2, 3, 4, 5, 6] fam_X3 dX1_listNeighbours_62 q_X1_listNeighbours_169 rfl (sX3_positionAt hw) rfl rfl rfl rfl rfl rfl rfl rfl rfl (fun r6 hw => ?_)
  refine am_partP [1, 2, 3, 4, 5, 6] fam_X3 dX1_listNeighbours_65 q_X1_listNeighbours_112 rfl (sX3_lengthAt hw) rfl rfl rfl rfl rfl rfl rfl rfl rfl (fun r7 hw => ?_)
  refine am_if_le 75 dX1_listNeighbours_68 (by decide) (fun c8 => ?_) (fun c8 => ?_)
  · have hw := hw.1 c8
    refine am_iconst dX1_listNeighbours_75 ic_0 ?_
    refine am_forget (ls' := [some (.ref 0), some (.int a1), none, none, none]) [true, true, false, false, false] rfl ?_
    exact sjnX1_listNeighbours_76  hw
  · have hw := hw.2 c8
    refine am_iconst dX1_listNeighbours_71 ic_1 ?_
    refine am_goto 76 dX1_listNeighbours_72 (by decide) ?_
    refine am_forget (ls' := [some (.ref 0), some (.int a1), none, none, none]) [true, true, false, false, false] rfl ?_
    exact sjnX1_listNeighbours_76  hw

def wX1_costOfAction (a1 : Int32) (K : Int32 → Prop) : Prop := (((1 : Int32) < a1 → K (1 : Int32)) ∧ (¬ (1 : Int32) < a1 → K (10001 : Int32)))
set_option maxRecDepth 20000 in
theorem sX1_costOfAction {a1 : Int32} {K : Int32 → Prop} (hw : wX1_costOfAction a1 K) : am_Met mX1_costOfAction [.int a1] [] 0 0 (zP [] K) := by
  unfold wX1_costOfAction at hw
  refine am_Met.of2 (ls := [some (.int a1)]) pf_X1_costOfAction rfl rfl rfl rfl ?_
  refine am_iload_n dX1_costOfAction_0 rfl ?_
  refine am_iconst dX1_costOfAction_1 ic_1 ?_
  refine am_icmp_gt 11 dX1_costOfAction_2 (by decide) (fun c1 => ?_) (fun c1 => ?_)
  · have hw := hw.1 c1
    refine am_iconst dX1_costOfAction_11 ic_1 ?_
    exact am_ireturn dX1_costOfAction_12 rfl ⟨_, rfl, rfl, hw⟩
  · have hw := hw.2 c1
    refine am_sipush dX1_costOfAction_5 sc_10001 ?_
    refine am_goto 12 dX1_costOfAction_8 (by decide) ?_
    exact am_ireturn dX1_costOfAction_12 rfl ⟨_, rfl, rfl, hw⟩

def jnX1_improveNeighbours_37 (K : Mu → Prop) (X0 : Int32 → Int32 → Mu → Prop) (v1 v2 : Int32) (m0 : Mu) : Prop := (vp_in v2 14 ∧ (vp_in v2 14 ∧ wX1_costOfAction (m0 3 (v2).toNatClampNeg) (fun r4 : Int32 => wX1_improve_m (m0 4 (v2).toNatClampNeg) (v1 + r4) m0 (fun m5 : Mu => ∀ x6 : Int32, x6 = v2 + (1 : Int32) → X0 v1 x6 m5))))
set_option maxRecDepth 20000 in
theorem sjnX1_improveNeighbours_37 {m0 : Mu} {K : Mu → Prop} {X0 : Int32 → Int32 → Mu → Prop} (hX0 : ∀ (a0 a1 : Int32) (mm : Mu), X0 a0 a1 mm → am_Ok mX1_improveNeighbours none (zV fX1 K) 0 0 2 [some (.ref 0), some (.int a0), some (.int a1), none] [] (fX1 mm)) {v1 v2 : Int32} (hw : jnX1_improveNeighbours_37 K X0 v1 v2 m0) : am_Ok mX1_improveNeighbours none (zV fX1 K) 0 0 37 [some (.ref 0), some (.int v1), some (.int v2), none] [.ref 14] (fX1 m0) := by
  unfold jnX1_improveNeighbours_37 at hw
  refine am_astore_n' (ls' := [some (.ref 0), some (.int v1), some (.int v2), some (.ref 14)]) dX1_improveNeighbours_37 rfl rfl rfl ?_
  refine am_aload_n dX1_improveNeighbours_38 rfl ?_
  refine am_aload_n dX1_improveNeighbours_39 rfl ?_
  refine am_getf dX1_improveNeighbours_40 fl_X1_28 rfl rfl ?_
  refine am_iload_n dX1_improveNeighbours_43 rfl ?_
  refine am_iaload dX1_improveNeighbours_44 rfl hw.1 ?_
  have hw := hw.2
  refine am_iload_n dX1_improveNeighbours_45 rfl ?_
  refine am_aload_n dX1_improveNeighbours_46 rfl ?_
  refine am_getf dX1_improveNeighbours_47 fl_X1_25 rfl rfl ?_
  refine am_iload_n dX1_improveNeighbours_50 rfl ?_
  refine am_iaload dX1_improveNeighbours_51 rfl hw.1 ?_
  have hw := hw.2
  refine am_stS dX1_improveNeighbours_52 q_X1_improveNeighbours_187 (sX1_costOfAction hw) rfl rfl rfl rfl (fun r4 hw => ?_)
  refine am_iadd dX1_improveNeighbours_55 ?_
  refine am_aload_n dX1_improveNeighbours_56 rfl ?_
  refine am_selfU fam_X1 rfl dX1_improveNeighbours_57 q_X1_improveNeighbours_131 rfl (sX1_improve_m hw) rfl rfl rfl rfl rfl (fun m5 hw => ?_)
  refine am_iinc' (lf := fun y9 => [some (.ref 0), some (.int v1), some (.int y9), some (.ref 14)]) dX1_improveNeighbours_60 rfl rfl rfl ic_1 (fun _ => rfl) (fun x6 ex6 => ?_)
  have hw := hw x6 ex6
  refine am_goto 2 dX1_improveNeighbours_63 (by decide) ?_
  refine am_forget (ls' := [some (.ref 0), some (.int v1), some (.int x6), none]) [true, true, true, false] rfl ?_
  exact hX0 _ _ _ hw
def jnX1_improveNeighbours_37_2 (K : Mu → Prop) (X0 : Int32 → Int32 → Mu → Prop) (v1 v2 : Int32) (m0 : Mu) : Prop := (vp_in v2 14 ∧ (vp_in v2 14 ∧ wX1_costOfAction (m0 3 (v2).toNatClampNeg) (fun r7 : Int32 => wX1_improve_t (m0 4 (v2).toNatClampNeg) (v1 + r7) m0 (fun m8 : Mu => ∀ x9 : Int32, x9 = v2 + (1 : Int32) → X0 v1 x9 m8))))
set_option maxRecDepth 20000 in
theorem sjnX1_improveNeighbours_37_2 {m0 : Mu} {K : Mu → Prop} {X0 : Int32 → Int32 → Mu → Prop} (hX0 : ∀ (a0 a1 : Int32) (mm : Mu), X0 a0 a1 mm → am_Ok mX1_improveNeighbours none (zV fX1 K) 0 0 2 [some (.ref 0), some (.int a0), some (.int a1), none] [] (fX1 mm)) {v1 v2 : Int32} (hw : jnX1_improveNeighbours_37_2 K X0 v1 v2 m0) : am_Ok mX1_improveNeighbours none (zV fX1 K) 0 0 37 [some (.ref 0), some (.int v1), some (.int v2), none] [.ref 12] (fX1 m0) := by
  unfold jnX1_improveNeighbours_37_2 at hw
  refine am_astore_n' (ls' := [some (.ref 0), some (.int v1), some (.int v2), some (.ref 12)]) dX1_improveNeighbours_37 rfl rfl rfl ?_
  refine am_aload_n dX1_improveNeighbours_38 rfl ?_
  refine am_aload_n dX1_improveNeighbours_39 rfl ?_
  refine am_getf dX1_improveNeighbours_40 fl_X1_28 rfl rfl ?_
  refine am_iload_n dX1_improveNeighbours_43 rfl ?_
  refine am_iaload dX1_improveNeighbours_44 rfl hw.1 ?_
  have hw := hw.2
  refine am_iload_n dX1_improveNeighbours_45 rfl ?_
  refine am_aload_n dX1_improveNeighbours_46 rfl ?_
  refine am_getf dX1_improveNeighbours_47 fl_X1_25 rfl rfl ?_
  refine am_iload_n dX1_improveNeighbours_50 rfl ?_
  refine am_iaload dX1_improveNeighbours_51 rfl hw.1 ?_
  have hw := hw.2
  refine am_stS dX1_improveNeighbours_52 q_X1_improveNeighbours_187 (sX1_costOfAction hw) rfl rfl rfl rfl (fun r7 hw => ?_)
  refine am_iadd dX1_improveNeighbours_55 ?_
  refine am_aload_n dX1_improveNeighbours_56 rfl ?_
  refine am_selfU fam_X1 rfl dX1_improveNeighbours_57 q_X1_improveNeighbours_131 rfl (sX1_improve_t hw) rfl rfl rfl rfl rfl (fun m8 hw => ?_)
  refine am_iinc' (lf := fun y9 => [some (.ref 0), some (.int v1), some (.int y9), some (.ref 12)]) dX1_improveNeighbours_60 rfl rfl rfl ic_1 (fun _ => rfl) (fun x9 ex9 => ?_)
  have hw := hw x9 ex9
  refine am_goto 2 dX1_improveNeighbours_63 (by decide) ?_
  refine am_forget (ls' := [some (.ref 0), some (.int v1), some (.int x9), none]) [true, true, true, false] rfl ?_
  exact hX0 _ _ _ hw
def lpX1_improveNeighbours_2 (K : Mu → Prop)  : Nat → Int32 → Int32 → Mu → Prop
  | 0, _, _, _ => False
  | n + 1, v1, v2, m0 => (((m0 13 10) ≤ v2 → K m0) ∧ (¬ (m0 13 10) ≤ v2 → (((14 : Int32) ≤ v2 → K m0) ∧ (¬ (14 : Int32) ≤ v2 → (vp_in v2 14 ∧ (((1 : Int32) < (m0 3 (v2).toNatClampNeg) → jnX1_improveNeighbours_37 K (fun a0 a1 mm => lpX1_improveNeighbours_2 K n a0 a1 mm) v1 v2 m0) ∧ (¬ (1 : Int32) < (m0 3 (v2).toNatClampNeg) → jnX1_improveNeighbours_37_2 K (fun a0 a1 mm => lpX1_improveNeighbours_2 K n a0 a1 mm) v1 v2 m0)))))))
set_option maxRecDepth 20000 in
theorem slpX1_improveNeighbours_2 {K : Mu → Prop} : ∀ (n : Nat) (v1 v2 : Int32) (m0 : Mu), lpX1_improveNeighbours_2 K n v1 v2 m0 → am_Ok mX1_improveNeighbours none (zV fX1 K) 0 0 2 [some (.ref 0), some (.int v1), some (.int v2), none] [] (fX1 m0) := by
  intro n
  induction n with
  | zero => intro v1 v2 m0 hw; exact False.elim hw
  | succ n ih =>
    intro v1 v2 m0 hw
    unfold lpX1_improveNeighbours_2 at hw
    refine am_iload_n dX1_improveNeighbours_2 rfl ?_
    refine am_aload_n dX1_improveNeighbours_3 rfl ?_
    refine am_getf dX1_improveNeighbours_4 fl_X1_160 rfl rfl ?_
    refine am_icmp_ge 66 dX1_improveNeighbours_7 (by decide) (fun c1 => ?_) (fun c1 => ?_)
    · have hw := hw.1 c1
      exact am_vreturn dX1_improveNeighbours_66 rfl ⟨_, rfl, rfl, hw⟩
    · have hw := hw.2 c1
      refine am_iload_n dX1_improveNeighbours_10 rfl ?_
      refine am_bipush dX1_improveNeighbours_11 bc_14 ?_
      refine am_icmp_ge 66 dX1_improveNeighbours_13 (by decide) (fun c2 => ?_) (fun c2 => ?_)
      · have hw := hw.1 c2
        exact am_vreturn dX1_improveNeighbours_66 rfl ⟨_, rfl, rfl, hw⟩
      · have hw := hw.2 c2
        refine am_aload_n dX1_improveNeighbours_16 rfl ?_
        refine am_getf dX1_improveNeighbours_17 fl_X1_25 rfl rfl ?_
        refine am_iload_n dX1_improveNeighbours_20 rfl ?_
        refine am_iaload dX1_improveNeighbours_21 rfl hw.1 ?_
        have hw := hw.2
        refine am_iconst dX1_improveNeighbours_22 ic_1 ?_
        refine am_icmp_gt 33 dX1_improveNeighbours_23 (by decide) (fun c3 => ?_) (fun c3 => ?_)
        · have hw := hw.1 c3
          refine am_aload_n dX1_improveNeighbours_33 rfl ?_
          refine am_getf dX1_improveNeighbours_34 fl_X1_41 rfl rfl ?_
          refine am_forget (ls' := [some (.ref 0), some (.int v1), some (.int v2), none]) [true, true, true, false] rfl ?_
          exact sjnX1_improveNeighbours_37 (fun a0 a1 mm hq => ih a0 a1 mm hq) hw
        · have hw := hw.2 c3
          refine am_aload_n dX1_improveNeighbours_26 rfl ?_
          refine am_getf dX1_improveNeighbours_27 fl_X1_37 rfl rfl ?_
          refine am_goto 37 dX1_improveNeighbours_30 (by decide) ?_
          refine am_forget (ls' := [some (.ref 0), some (.int v1), some (.int v2), none]) [true, true, true, false] rfl ?_
          exact sjnX1_improveNeighbours_37_2 (fun a0 a1 mm hq => ih a0 a1 mm hq) hw
def wX1_improveNeighbours (a1 : Int32) (m0 : Mu) (K : Mu → Prop) : Prop := (∃ n10 : Nat, lpX1_improveNeighbours_2 K n10 a1 (0 : Int32) m0)
set_option maxRecDepth 20000 in
theorem sX1_improveNeighbours {a1 : Int32} {m0 : Mu} {K : Mu → Prop} (hw : wX1_improveNeighbours a1 m0 K) : am_Met mX1_improveNeighbours [.ref 0, .int a1] (fX1 m0) 0 0 (zV fX1 K) := by
  unfold wX1_improveNeighbours at hw
  refine am_Met.of2 (ls := [some (.ref 0), some (.int a1), none, none]) pf_X1_improveNeighbours rfl rfl rfl rfl ?_
  refine am_iconst dX1_improveNeighbours_0 ic_0 ?_
  refine am_istore_n' (ls' := [some (.ref 0), some (.int a1), some (.int (0 : Int32)), none]) dX1_improveNeighbours_1 rfl rfl rfl ?_
  obtain ⟨n10, hw⟩ := hw
  refine am_forget (ls' := [some (.ref 0), some (.int a1), some (.int (0 : Int32)), none]) [true, true, true, false] rfl ?_
  exact slpX1_improveNeighbours_2  n10 _ _ _ hw

def lpX1_bestCost_8 (K : Int32 → Mu → Prop)  : Nat → Int32 → Int32 → Mu → Prop
  | 0, _, _, _ => False
  | n + 1, v2, v3, m0 => (((8064 : Int32) ≤ v3 → wX1_costOf v2 m0 (fun r4 : Int32 => K r4 m0)) ∧ (¬ (8064 : Int32) ≤ v3 → wX1_nearerQueue m0 (fun r5 : Nat => ((r5 = 12 ∨ r5 = 14) ∧ (r5 = 12 → wX2_first (mu_sub m0 30) (fun r6 : Int32 => wX1_costOf r6 m0 (fun r7 : Int32 => wX1_costOf v2 m0 (fun r8 : Int32 => ((r7 < r8 → wX2_removeFirst (mu_sub m0 30) (fun (r12 : Int32) (k10 : Mu) => ∀ m11 : Mu, m11 = mu_put m0 30 4 k10 → wX1_listNeighbours r12 m11 (fun k13 : Mu => ∀ m14 : Mu, m14 = mu_put m11 0 50 k13 → wX1_costOf r12 m14 (fun r15 : Int32 => wX1_improveNeighbours r15 m14 (fun k16 : Mu => ∀ m17 : Mu, m17 = mu_put m14 0 50 k16 → ∀ x18 : Int32, x18 = v3 + (1 : Int32) → lpX1_bestCost_8 K n v2 x18 m17))))) ∧ (¬ r7 < r8 → wX1_costOf v2 m0 (fun r19 : Int32 => K r19 m0))))))) ∧ (r5 = 14 → wX2_first (mu_sub m0 40) (fun r20 : Int32 => wX1_costOf r20 m0 (fun r21 : Int32 => wX1_costOf v2 m0 (fun r22 : Int32 => ((r21 < r22 → wX2_removeFirst (mu_sub m0 40) (fun (r26 : Int32) (k24 : Mu) => ∀ m25 : Mu, m25 = mu_put m0 40 4 k24 → wX1_listNeighbours r26 m25 (fun k27 : Mu => ∀ m28 : Mu, m28 = mu_put m25 0 50 k27 → wX1_costOf r26 m28 (fun r29 : Int32 => wX1_improveNeighbours r29 m28 (fun k30 : Mu => ∀ m31 : Mu, m31 = mu_put m28 0 50 k30 → ∀ x32 : Int32, x32 = v3 + (1 : Int32) → lpX1_bestCost_8 K n v2 x32 m31))))) ∧ (¬ r21 < r22 → wX1_costOf v2 m0 (fun r33 : Int32 => K r33 m0)))))))))))
set_option maxRecDepth 20000 in
theorem slpX1_bestCost_8 {K : Int32 → Mu → Prop} : ∀ (n : Nat) (v2 v3 : Int32) (m0 : Mu), lpX1_bestCost_8 K n v2 v3 m0 → am_Ok mX1_bestCost none (zI fX1Y K) 0 0 8 [some (.ref 0), none, some (.int v2), some (.int v3), none, none] [] (fX1Y m0) := by
  intro n
  induction n with
  | zero => intro v2 v3 m0 hw; exact False.elim hw
  | succ n ih =>
    intro v2 v3 m0 hw
    unfold lpX1_bestCost_8 at hw
    refine am_iload_n dX1_bestCost_8 rfl ?_
    refine am_sipush dX1_bestCost_9 sc_8064 ?_
    refine am_icmp_ge 70 dX1_bestCost_12 (by decide) (fun c3 => ?_) (fun c3 => ?_)
    · have hw := hw.1 c3
      refine am_aload_n dX1_bestCost_70 rfl ?_
      refine am_iload_n dX1_bestCost_71 rfl ?_
      refine am_preP (gY m0) rfl fam_X1 rfl dX1_bestCost_72 q_X1_bestCost_93 rfl (sX1_costOf hw) rfl rfl rfl rfl rfl (fun r4 hw => ?_)
      exact am_ireturn dX1_bestCost_75 rfl ⟨_, _, rfl, rfl, hw⟩
    · have hw := hw.2 c3
      refine am_aload_n dX1_bestCost_15 rfl ?_
      refine am_preQ (gY m0) rfl fam_X1 rfl dX1_bestCost_16 q_X1_bestCost_85 rfl (sX1_nearerQueue hw) rfl rfl rfl rfl rfl (fun r5 hw => ?_)
      rcases hw.1 with rfl | rfl
      · have hw := hw.2.1 rfl
        refine am_astore' (ls' := [some (.ref 0), none, some (.int v2), some (.int v3), some (.ref 12), none]) dX1_bestCost_19 rfl rfl rfl ?_
        refine am_aload_n dX1_bestCost_21 rfl ?_
        refine am_aload dX1_bestCost_22 rfl ?_
        refine am_partP [12, 13] fam_X2 dX1_bestCost_24 q_X1_bestCost_89 rfl (sX2_first hw) rfl rfl rfl rfl rfl rfl rfl rfl rfl (fun r6 hw => ?_)
        refine am_preP (gY m0) rfl fam_X1 rfl dX1_bestCost_27 q_X1_bestCost_93 rfl (sX1_costOf hw) rfl rfl rfl rfl rfl (fun r7 hw => ?_)
        refine am_aload_n dX1_bestCost_30 rfl ?_
        refine am_iload_n dX1_bestCost_31 rfl ?_
        refine am_preP (gY m0) rfl fam_X1 rfl dX1_bestCost_32 q_X1_bestCost_93 rfl (sX1_costOf hw) rfl rfl rfl rfl rfl (fun r8 hw => ?_)
        refine am_icmp_lt 41 dX1_bestCost_35 (by decide) (fun c9 => ?_) (fun c9 => ?_)
        · have hw := hw.1 c9
          refine am_aload dX1_bestCost_41 rfl ?_
          refine am_partI [12, 13] fam_X2 dX1_bestCost_43 q_X1_bestCost_96 rfl (sX2_removeFirst hw) rfl rfl rfl rfl rfl rfl rfl rfl rfl (fun r12 k10 hw => ?_)
          refine am_hm (F := fX1Y) (m := mu_put m0 30 4 k10) rfl (fun m11 em11 => ?_)
          have hw := hw m11 em11
          refine am_istore' (ls' := [some (.ref 0), none, some (.int v2), some (.int v3), some (.ref 12), some (.int r12)]) dX1_bestCost_46 rfl rfl rfl ?_
          refine am_aload_n dX1_bestCost_48 rfl ?_
          refine am_iload dX1_bestCost_49 rfl ?_
          refine am_preU (gY m11) rfl fam_X1 rfl dX1_bestCost_51 q_X1_bestCost_99 rfl (sX1_listNeighbours hw) rfl rfl rfl rfl rfl (fun k13 hw => ?_)
          refine am_hm (F := fX1Y) (m := mu_put m11 0 50 k13) rfl (fun m14 em14 => ?_)
          have hw := hw m14 em14
          refine am_aload_n dX1_bestCost_54 rfl ?_
          refine am_aload_n dX1_bestCost_55 rfl ?_
          refine am_iload dX1_bestCost_56 rfl ?_
          refine am_preP (gY m14) rfl fam_X1 rfl dX1_bestCost_58 q_X1_bestCost_93 rfl (sX1_costOf hw) rfl rfl rfl rfl rfl (fun r15 hw => ?_)
          refine am_preU (gY m14) rfl fam_X1 rfl dX1_bestCost_61 q_X1_bestCost_103 rfl (sX1_improveNeighbours hw) rfl rfl rfl rfl rfl (fun k16 hw => ?_)
          refine am_hm (F := fX1Y) (m := mu_put m14 0 50 k16) rfl (fun m17 em17 => ?_)
          have hw := hw m17 em17
          refine am_iinc' (lf := fun y9 => [some (.ref 0), none, some (.int v2), some (.int y9), some (.ref 12), some (.int r12)]) dX1_bestCost_64 rfl rfl rfl ic_1 (fun _ => rfl) (fun x18 ex18 => ?_)
          have hw := hw x18 ex18
          refine am_goto 8 dX1_bestCost_67 (by decide) ?_
          refine am_forget (ls' := [some (.ref 0), none, some (.int v2), some (.int x18), none, none]) [true, false, true, true, false, false] rfl ?_
          exact ih _ _ _ hw
        · have hw := hw.2 c9
          refine am_goto 70 dX1_bestCost_38 (by decide) ?_
          refine am_aload_n dX1_bestCost_70 rfl ?_
          refine am_iload_n dX1_bestCost_71 rfl ?_
          refine am_preP (gY m0) rfl fam_X1 rfl dX1_bestCost_72 q_X1_bestCost_93 rfl (sX1_costOf hw) rfl rfl rfl rfl rfl (fun r19 hw => ?_)
          exact am_ireturn dX1_bestCost_75 rfl ⟨_, _, rfl, rfl, hw⟩
      · have hw := hw.2.2 rfl
        refine am_astore' (ls' := [some (.ref 0), none, some (.int v2), some (.int v3), some (.ref 14), none]) dX1_bestCost_19 rfl rfl rfl ?_
        refine am_aload_n dX1_bestCost_21 rfl ?_
        refine am_aload dX1_bestCost_22 rfl ?_
        refine am_partP [14, 15] fam_X2 dX1_bestCost_24 q_X1_bestCost_89 rfl (sX2_first hw) rfl rfl rfl rfl rfl rfl rfl rfl rfl (fun r20 hw => ?_)
        refine am_preP (gY m0) rfl fam_X1 rfl dX1_bestCost_27 q_X1_bestCost_93 rfl (sX1_costOf hw) rfl rfl rfl rfl rfl (fun r21 hw => ?_)
        refine am_aload_n dX1_bestCost_30 rfl ?_
        refine am_iload_n dX1_bestCost_31 rfl ?_
        refine am_preP (gY m0) rfl fam_X1 rfl dX1_bestCost_32 q_X1_bestCost_93 rfl (sX1_costOf hw) rfl rfl rfl rfl rfl (fun r22 hw => ?_)
        refine am_icmp_lt 41 dX1_bestCost_35 (by decide) (fun c23 => ?_) (fun c23 => ?_)
        · have hw := hw.1 c23
          refine am_aload dX1_bestCost_41 rfl ?_
          refine am_partI [14, 15] fam_X2 dX1_bestCost_43 q_X1_bestCost_96 rfl (sX2_removeFirst hw) rfl rfl rfl rfl rfl rfl rfl rfl rfl (fun r26 k24 hw => ?_)
          refine am_hm (F := fX1Y) (m := mu_put m0 40 4 k24) rfl (fun m25 em25 => ?_)
          have hw := hw m25 em25
          refine am_istore' (ls' := [some (.ref 0), none, some (.int v2), some (.int v3), some (.ref 14), some (.int r26)]) dX1_bestCost_46 rfl rfl rfl ?_
          refine am_aload_n dX1_bestCost_48 rfl ?_
          refine am_iload dX1_bestCost_49 rfl ?_
          refine am_preU (gY m25) rfl fam_X1 rfl dX1_bestCost_51 q_X1_bestCost_99 rfl (sX1_listNeighbours hw) rfl rfl rfl rfl rfl (fun k27 hw => ?_)
          refine am_hm (F := fX1Y) (m := mu_put m25 0 50 k27) rfl (fun m28 em28 => ?_)
          have hw := hw m28 em28
          refine am_aload_n dX1_bestCost_54 rfl ?_
          refine am_aload_n dX1_bestCost_55 rfl ?_
          refine am_iload dX1_bestCost_56 rfl ?_
          refine am_preP (gY m28) rfl fam_X1 rfl dX1_bestCost_58 q_X1_bestCost_93 rfl (sX1_costOf hw) rfl rfl rfl rfl rfl (fun r29 hw => ?_)
          refine am_preU (gY m28) rfl fam_X1 rfl dX1_bestCost_61 q_X1_bestCost_103 rfl (sX1_improveNeighbours hw) rfl rfl rfl rfl rfl (fun k30 hw => ?_)
          refine am_hm (F := fX1Y) (m := mu_put m28 0 50 k30) rfl (fun m31 em31 => ?_)
          have hw := hw m31 em31
          refine am_iinc' (lf := fun y9 => [some (.ref 0), none, some (.int v2), some (.int y9), some (.ref 14), some (.int r26)]) dX1_bestCost_64 rfl rfl rfl ic_1 (fun _ => rfl) (fun x32 ex32 => ?_)
          have hw := hw x32 ex32
          refine am_goto 8 dX1_bestCost_67 (by decide) ?_
          refine am_forget (ls' := [some (.ref 0), none, some (.int v2), some (.int x32), none, none]) [true, false, true, true, false, false] rfl ?_
          exact ih _ _ _ hw
        · have hw := hw.2 c23
          refine am_goto 70 dX1_bestCost_38 (by decide) ?_
          refine am_aload_n dX1_bestCost_70 rfl ?_
          refine am_iload_n dX1_bestCost_71 rfl ?_
          refine am_preP (gY m0) rfl fam_X1 rfl dX1_bestCost_72 q_X1_bestCost_93 rfl (sX1_costOf hw) rfl rfl rfl rfl rfl (fun r33 hw => ?_)
          exact am_ireturn dX1_bestCost_75 rfl ⟨_, _, rfl, rfl, hw⟩
def wX1_bestCost (m0 : Mu) (K : Int32 → Mu → Prop) : Prop := wX1_stateOf_y m0 (fun (r1 : Int32) (m2 : Mu) => (∃ n34 : Nat, lpX1_bestCost_8 K n34 r1 (0 : Int32) m2))
set_option maxRecDepth 20000 in
theorem sX1_bestCost {m0 : Mu} {K : Int32 → Mu → Prop} (hw : wX1_bestCost m0 K) : am_Met mX1_bestCost [.ref 0, .ref 16] (fX1Y m0) 0 0 (zI fX1Y K) := by
  unfold wX1_bestCost at hw
  refine am_Met.of2 (ls := [some (.ref 0), some (.ref 16), none, none, none, none]) pf_X1_bestCost rfl rfl rfl rfl ?_
  refine am_aload_n dX1_bestCost_0 rfl ?_
  refine am_aload_n dX1_bestCost_1 rfl ?_
  refine am_selfI fam_X1Y rfl dX1_bestCost_2 q_X1_bestCost_81 rfl (sX1_stateOf_y hw) rfl rfl rfl rfl rfl (fun r1 m2 hw => ?_)
  refine am_istore_n' (ls' := [some (.ref 0), some (.ref 16), some (.int r1), none, none, none]) dX1_bestCost_5 rfl rfl rfl ?_
  refine am_iconst dX1_bestCost_6 ic_0 ?_
  refine am_istore_n' (ls' := [some (.ref 0), some (.ref 16), some (.int r1), some (.int (0 : Int32)), none, none]) dX1_bestCost_7 rfl rfl rfl ?_
  obtain ⟨n34, hw⟩ := hw
  refine am_forget (ls' := [some (.ref 0), none, some (.int r1), some (.int (0 : Int32)), none, none]) [true, false, true, true, false, false] rfl ?_
  exact slpX1_bestCost_8  n34 _ _ _ hw

def lpX1_firstOnBestPlan_2 (m0 : Mu) (K : Int32 → Prop)  : Nat → Int32 → Int32 → Prop
  | 0, _, _ => False
  | n + 1, v1, v2 => (((m0 13 10) ≤ v2 → K (-11 : Int32)) ∧ (¬ (m0 13 10) ≤ v2 → (((14 : Int32) ≤ v2 → K (-11 : Int32)) ∧ (¬ (14 : Int32) ≤ v2 → (vp_in v2 14 ∧ wX1_costOf (m0 4 (v2).toNatClampNeg) m0 (fun r3 : Int32 => ((r3 = (1000000000 : Int32) → ∀ x5 : Int32, x5 = v2 + (1 : Int32) → lpX1_firstOnBestPlan_2 m0 K n v1 x5) ∧ (¬ r3 = (1000000000 : Int32) → (vp_in v2 14 ∧ wX1_costOfAction (m0 3 (v2).toNatClampNeg) (fun r6 : Int32 => (((r3 + r6) = v1 → K v2) ∧ (¬ (r3 + r6) = v1 → ∀ x8 : Int32, x8 = v2 + (1 : Int32) → lpX1_firstOnBestPlan_2 m0 K n v1 x8))))))))))))
set_option maxRecDepth 20000 in
theorem slpX1_firstOnBestPlan_2 {m0 : Mu} {K : Int32 → Prop} : ∀ (n : Nat) (v1 v2 : Int32), lpX1_firstOnBestPlan_2 m0 K n v1 v2 → am_Ok mX1_firstOnBestPlan none (zP (fX1 m0) K) 0 0 2 [some (.ref 0), some (.int v1), some (.int v2), none] [] (fX1 m0) := by
  intro n
  induction n with
  | zero => intro v1 v2 hw; exact False.elim hw
  | succ n ih =>
    intro v1 v2 hw
    unfold lpX1_firstOnBestPlan_2 at hw
    refine am_iload_n dX1_firstOnBestPlan_2 rfl ?_
    refine am_aload_n dX1_firstOnBestPlan_3 rfl ?_
    refine am_getf dX1_firstOnBestPlan_4 fl_X1_160 rfl rfl ?_
    refine am_icmp_ge 56 dX1_firstOnBestPlan_7 (by decide) (fun c1 => ?_) (fun c1 => ?_)
    · have hw := hw.1 c1
      refine am_bipush dX1_firstOnBestPlan_56 bc_m11 ?_
      exact am_ireturn dX1_firstOnBestPlan_58 rfl ⟨_, rfl, rfl, hw⟩
    · have hw := hw.2 c1
      refine am_iload_n dX1_firstOnBestPlan_10 rfl ?_
      refine am_bipush dX1_firstOnBestPlan_11 bc_14 ?_
      refine am_icmp_ge 56 dX1_firstOnBestPlan_13 (by decide) (fun c2 => ?_) (fun c2 => ?_)
      · have hw := hw.1 c2
        refine am_bipush dX1_firstOnBestPlan_56 bc_m11 ?_
        exact am_ireturn dX1_firstOnBestPlan_58 rfl ⟨_, rfl, rfl, hw⟩
      · have hw := hw.2 c2
        refine am_aload_n dX1_firstOnBestPlan_16 rfl ?_
        refine am_aload_n dX1_firstOnBestPlan_17 rfl ?_
        refine am_getf dX1_firstOnBestPlan_18 fl_X1_28 rfl rfl ?_
        refine am_iload_n dX1_firstOnBestPlan_21 rfl ?_
        refine am_iaload dX1_firstOnBestPlan_22 rfl hw.1 ?_
        have hw := hw.2
        refine am_selfP fam_X1 rfl dX1_firstOnBestPlan_23 q_X1_firstOnBestPlan_93 rfl (sX1_costOf hw) rfl rfl rfl rfl rfl (fun r3 hw => ?_)
        refine am_istore_n' (ls' := [some (.ref 0), some (.int v1), some (.int v2), some (.int r3)]) dX1_firstOnBestPlan_26 rfl rfl rfl ?_
        refine am_iload_n dX1_firstOnBestPlan_27 rfl ?_
        refine am_ldc dX1_firstOnBestPlan_28 wd_463 ?_
        refine am_icmp_eq 50 dX1_firstOnBestPlan_30 (by decide) (fun c4 => ?_) (fun c4 => ?_)
        · have hw := hw.1 c4
          refine am_iinc' (lf := fun y9 => [some (.ref 0), some (.int v1), some (.int y9), some (.int r3)]) dX1_firstOnBestPlan_50 rfl rfl rfl ic_1 (fun _ => rfl) (fun x5 ex5 => ?_)
          have hw := hw x5 ex5
          refine am_goto 2 dX1_firstOnBestPlan_53 (by decide) ?_
          refine am_forget (ls' := [some (.ref 0), some (.int v1), some (.int x5), none]) [true, true, true, false] rfl ?_
          exact ih _ _ hw
        · have hw := hw.2 c4
          refine am_iload_n dX1_firstOnBestPlan_33 rfl ?_
          refine am_aload_n dX1_firstOnBestPlan_34 rfl ?_
          refine am_getf dX1_firstOnBestPlan_35 fl_X1_25 rfl rfl ?_
          refine am_iload_n dX1_firstOnBestPlan_38 rfl ?_
          refine am_iaload dX1_firstOnBestPlan_39 rfl hw.1 ?_
          have hw := hw.2
          refine am_stS dX1_firstOnBestPlan_40 q_X1_firstOnBestPlan_187 (sX1_costOfAction hw) rfl rfl rfl rfl (fun r6 hw => ?_)
          refine am_iadd dX1_firstOnBestPlan_43 ?_
          refine am_iload_n dX1_firstOnBestPlan_44 rfl ?_
          refine am_icmp_ne 50 dX1_firstOnBestPlan_45 (by decide) (fun c7 => ?_) (fun c7 => ?_)
          · have hw := hw.1 c7
            refine am_iload_n dX1_firstOnBestPlan_48 rfl ?_
            exact am_ireturn dX1_firstOnBestPlan_49 rfl ⟨_, rfl, rfl, hw⟩
          · have hw := hw.2 c7
            refine am_iinc' (lf := fun y9 => [some (.ref 0), some (.int v1), some (.int y9), some (.int r3)]) dX1_firstOnBestPlan_50 rfl rfl rfl ic_1 (fun _ => rfl) (fun x8 ex8 => ?_)
            have hw := hw x8 ex8
            refine am_goto 2 dX1_firstOnBestPlan_53 (by decide) ?_
            refine am_forget (ls' := [some (.ref 0), some (.int v1), some (.int x8), none]) [true, true, true, false] rfl ?_
            exact ih _ _ hw
def wX1_firstOnBestPlan (a1 : Int32) (m0 : Mu) (K : Int32 → Prop) : Prop := (∃ n9 : Nat, lpX1_firstOnBestPlan_2 m0 K n9 a1 (0 : Int32))
set_option maxRecDepth 20000 in
theorem sX1_firstOnBestPlan {a1 : Int32} {m0 : Mu} {K : Int32 → Prop} (hw : wX1_firstOnBestPlan a1 m0 K) : am_Met mX1_firstOnBestPlan [.ref 0, .int a1] (fX1 m0) 0 0 (zP (fX1 m0) K) := by
  unfold wX1_firstOnBestPlan at hw
  refine am_Met.of2 (ls := [some (.ref 0), some (.int a1), none, none]) pf_X1_firstOnBestPlan rfl rfl rfl rfl ?_
  refine am_iconst dX1_firstOnBestPlan_0 ic_0 ?_
  refine am_istore_n' (ls' := [some (.ref 0), some (.int a1), some (.int (0 : Int32)), none]) dX1_firstOnBestPlan_1 rfl rfl rfl ?_
  obtain ⟨n9, hw⟩ := hw
  refine am_forget (ls' := [some (.ref 0), some (.int a1), some (.int (0 : Int32)), none]) [true, true, true, false] rfl ?_
  exact slpX1_firstOnBestPlan_2  n9 _ _ hw

def lpX1_actionAt_13 (K : Int32 → Mu → Prop)  : Nat → Int32 → Int32 → Int32 → Int32 → Mu → Prop
  | 0, _, _, _, _, _ => False
  | n + 1, v2, v3, v4, v5, m0 => ((v2 < v5 → K v4 m0) ∧ (¬ v2 < v5 → (((4032 : Int32) ≤ v5 → K v4 m0) ∧ (¬ (4032 : Int32) ≤ v5 → wX1_listNeighbours v3 m0 (fun k5 : Mu => ∀ m6 : Mu, m6 = mu_put m0 0 50 k5 → wX1_costOf v3 m6 (fun r7 : Int32 => wX1_firstOnBestPlan r7 m6 (fun r8 : Int32 => ((r8 < 0 → K (-11 : Int32) m6) ∧ (¬ r8 < 0 → ((r8 < (14 : Int32) → (vp_in r8 14 ∧ ∀ x11 : Int32, x11 = (m6 3 (r8).toNatClampNeg) → (vp_in r8 14 ∧ ∀ x12 : Int32, x12 = (m6 4 (r8).toNatClampNeg) → ∀ x13 : Int32, x13 = v5 + (1 : Int32) → lpX1_actionAt_13 K n v2 x12 x11 x13 m6))) ∧ (¬ r8 < (14 : Int32) → K (-11 : Int32) m6)))))))))))
set_option maxRecDepth 20000 in
theorem slpX1_actionAt_13 {K : Int32 → Mu → Prop} : ∀ (n : Nat) (v2 v3 v4 v5 : Int32) (m0 : Mu), lpX1_actionAt_13 K n v2 v3 v4 v5 m0 → am_Ok mX1_actionAt none (zI fX1Y K) 0 0 13 [some (.ref 0), none, some (.int v2), some (.int v3), some (.int v4), some (.int v5), none] [] (fX1Y m0) := by
  intro n
  induction n with
  | zero => intro v2 v3 v4 v5 m0 hw; exact False.elim hw
  | succ n ih =>
    intro v2 v3 v4 v5 m0 hw
    unfold lpX1_actionAt_13 at hw
    refine am_iload dX1_actionAt_13 rfl ?_
    refine am_iload_n dX1_actionAt_15 rfl ?_
    refine am_icmp_gt 81 dX1_actionAt_16 (by decide) (fun c3 => ?_) (fun c3 => ?_)
    · have hw := hw.1 c3
      refine am_iload dX1_actionAt_81 rfl ?_
      exact am_ireturn dX1_actionAt_83 rfl ⟨_, _, rfl, rfl, hw⟩
    · have hw := hw.2 c3
      refine am_iload dX1_actionAt_19 rfl ?_
      refine am_sipush dX1_actionAt_21 sc_4032 ?_
      refine am_icmp_ge 81 dX1_actionAt_24 (by decide) (fun c4 => ?_) (fun c4 => ?_)
      · have hw := hw.1 c4
        refine am_iload dX1_actionAt_81 rfl ?_
        exact am_ireturn dX1_actionAt_83 rfl ⟨_, _, rfl, rfl, hw⟩
      · have hw := hw.2 c4
        refine am_aload_n dX1_actionAt_27 rfl ?_
        refine am_iload_n dX1_actionAt_28 rfl ?_
        refine am_preU (gY m0) rfl fam_X1 rfl dX1_actionAt_29 q_X1_actionAt_99 rfl (sX1_listNeighbours hw) rfl rfl rfl rfl rfl (fun k5 hw => ?_)
        refine am_hm (F := fX1Y) (m := mu_put m0 0 50 k5) rfl (fun m6 em6 => ?_)
        have hw := hw m6 em6
        refine am_aload_n dX1_actionAt_32 rfl ?_
        refine am_aload_n dX1_actionAt_33 rfl ?_
        refine am_iload_n dX1_actionAt_34 rfl ?_
        refine am_preP (gY m6) rfl fam_X1 rfl dX1_actionAt_35 q_X1_actionAt_93 rfl (sX1_costOf hw) rfl rfl rfl rfl rfl (fun r7 hw => ?_)
        refine am_preP (gY m6) rfl fam_X1 rfl dX1_actionAt_38 q_X1_actionAt_106 rfl (sX1_firstOnBestPlan hw) rfl rfl rfl rfl rfl (fun r8 hw => ?_)
        refine am_istore' (ls' := [some (.ref 0), none, some (.int v2), some (.int v3), some (.int v4), some (.int v5), some (.int r8)]) dX1_actionAt_41 rfl rfl rfl ?_
        refine am_iload dX1_actionAt_43 rfl ?_
        refine am_if_lt 55 dX1_actionAt_45 (by decide) (fun c9 => ?_) (fun c9 => ?_)
        · have hw := hw.1 c9
          refine am_bipush dX1_actionAt_55 bc_m11 ?_
          exact am_ireturn dX1_actionAt_57 rfl ⟨_, _, rfl, rfl, hw⟩
        · have hw := hw.2 c9
          refine am_iload dX1_actionAt_48 rfl ?_
          refine am_bipush dX1_actionAt_50 bc_14 ?_
          refine am_icmp_lt 58 dX1_actionAt_52 (by decide) (fun c10 => ?_) (fun c10 => ?_)
          · have hw := hw.1 c10
            refine am_aload_n dX1_actionAt_58 rfl ?_
            refine am_getf dX1_actionAt_59 fl_X1_25 rfl rfl ?_
            refine am_iload dX1_actionAt_62 rfl ?_
            refine am_iaload dX1_actionAt_64 rfl hw.1 ?_
            have hw := hw.2
            refine am_top (fun x11 ex11 => ?_)
            have hw := hw x11 ex11
            refine am_istore' (ls' := [some (.ref 0), none, some (.int v2), some (.int v3), some (.int x11), some (.int v5), some (.int r8)]) dX1_actionAt_65 rfl rfl rfl ?_
            refine am_aload_n dX1_actionAt_67 rfl ?_
            refine am_getf dX1_actionAt_68 fl_X1_28 rfl rfl ?_
            refine am_iload dX1_actionAt_71 rfl ?_
            refine am_iaload dX1_actionAt_73 rfl hw.1 ?_
            have hw := hw.2
            refine am_top (fun x12 ex12 => ?_)
            have hw := hw x12 ex12
            refine am_istore_n' (ls' := [some (.ref 0), none, some (.int v2), some (.int x12), some (.int x11), some (.int v5), some (.int r8)]) dX1_actionAt_74 rfl rfl rfl ?_
            refine am_iinc' (lf := fun y9 => [some (.ref 0), none, some (.int v2), some (.int x12), some (.int x11), some (.int y9), some (.int r8)]) dX1_actionAt_75 rfl rfl rfl ic_1 (fun _ => rfl) (fun x13 ex13 => ?_)
            have hw := hw x13 ex13
            refine am_goto 13 dX1_actionAt_78 (by decide) ?_
            refine am_forget (ls' := [some (.ref 0), none, some (.int v2), some (.int x12), some (.int x11), some (.int x13), none]) [true, false, true, true, true, true, false] rfl ?_
            exact ih _ _ _ _ _ hw
          · have hw := hw.2 c10
            refine am_bipush dX1_actionAt_55 bc_m11 ?_
            exact am_ireturn dX1_actionAt_57 rfl ⟨_, _, rfl, rfl, hw⟩
def wX1_actionAt (a2 : Int32) (m0 : Mu) (K : Int32 → Mu → Prop) : Prop := wX1_stateOf_y m0 (fun (r1 : Int32) (m2 : Mu) => (∃ n14 : Nat, lpX1_actionAt_13 K n14 a2 r1 (-11 : Int32) (0 : Int32) m2))
set_option maxRecDepth 20000 in
theorem sX1_actionAt {a2 : Int32} {m0 : Mu} {K : Int32 → Mu → Prop} (hw : wX1_actionAt a2 m0 K) : am_Met mX1_actionAt [.ref 0, .ref 16, .int a2] (fX1Y m0) 0 0 (zI fX1Y K) := by
  unfold wX1_actionAt at hw
  refine am_Met.of2 (ls := [some (.ref 0), some (.ref 16), some (.int a2), none, none, none, none]) pf_X1_actionAt rfl rfl rfl rfl ?_
  refine am_aload_n dX1_actionAt_0 rfl ?_
  refine am_aload_n dX1_actionAt_1 rfl ?_
  refine am_selfI fam_X1Y rfl dX1_actionAt_2 q_X1_actionAt_81 rfl (sX1_stateOf_y hw) rfl rfl rfl rfl rfl (fun r1 m2 hw => ?_)
  refine am_istore_n' (ls' := [some (.ref 0), some (.ref 16), some (.int a2), some (.int r1), none, none, none]) dX1_actionAt_5 rfl rfl rfl ?_
  refine am_bipush dX1_actionAt_6 bc_m11 ?_
  refine am_istore' (ls' := [some (.ref 0), some (.ref 16), some (.int a2), some (.int r1), some (.int (-11 : Int32)), none, none]) dX1_actionAt_8 rfl rfl rfl ?_
  refine am_iconst dX1_actionAt_10 ic_0 ?_
  refine am_istore' (ls' := [some (.ref 0), some (.ref 16), some (.int a2), some (.int r1), some (.int (-11 : Int32)), some (.int (0 : Int32)), none]) dX1_actionAt_11 rfl rfl rfl ?_
  obtain ⟨n14, hw⟩ := hw
  refine am_forget (ls' := [some (.ref 0), none, some (.int a2), some (.int r1), some (.int (-11 : Int32)), some (.int (0 : Int32)), none]) [true, false, true, true, true, true, false] rfl ?_
  exact slpX1_actionAt_13  n14 _ _ _ _ _ hw
