theorem am_tsw {M : am_M} {sc : Option (Nat × (Nat → Int32))} {Z : Option Value → am_H → Prop} {nc ns pc : Nat} {ls : List (Option Value)} {st : List Value} {h : am_H} {dflt hi : Int} {offs : Array Int} {len : Nat} {x : Int32} {off : Int} (j tgt : Nat) (hd : decode M.2.1 pc = .ok (.tableswitch dflt 0 hi offs, len)) (hx : x.toInt = (j : Int)) (h2 : (j : Int) ≤ hi) (ho : offs[j]? = some off) (ht : (pc : Int) + off = (tgt : Int)) (k : am_Ok M sc Z nc ns tgt ls st h) : am_Ok M sc Z nc ns pc ls (.int x :: st) h :=
  am_pure (fun r hx1 hb ho1 ht1 hg w => lv_tableIn hx1 hb hd (by omega) (by omega) (by rw [hx]; simpa using ho) ht w) k
theorem am_tswO {M : am_M} {sc : Option (Nat × (Nat → Int32))} {Z : Option Value → am_H → Prop} {nc ns pc : Nat} {ls : List (Option Value)} {st : List Value} {h : am_H} {dflt hi : Int} {offs : Array Int} {len : Nat} {x : Int32} (tgt : Nat) (hd : decode M.2.1 pc = .ok (.tableswitch dflt 0 hi offs, len)) (hx : hi < x.toInt) (ht : (pc : Int) + dflt = (tgt : Int)) (k : am_Ok M sc Z nc ns tgt ls st h) : am_Ok M sc Z nc ns pc ls (.int x :: st) h :=
  am_pure (fun r hx1 hb ho1 ht1 hg w => lv_tableOut hx1 hb hd (Or.inr hx) ht w) k
/-- each call of class and reference, from states that stand in J: the answers are the same, and the states stand in J again -/
def okAll (J : Bool → Bool → Bool → HM → Mu → Prop) : Prop := (∀ hp s0 s1 m k, J hp s0 s1 m k → ∀ (a1 a2 : Int32), ok_0 J a1 a2 hp s0 s1 m k) ∧ (∀ hp s0 s1 m k, J hp s0 s1 m k → ∀ (a1 : Int32), ok_1 J a1 hp s0 s1 m k) ∧ (∀ hp s0 s1 m k, J hp s0 s1 m k → ∀ (a1 a2 : Int32), ok_2 J a1 a2 hp s0 s1 m k) ∧ (∀ hp s0 s1 m k, J hp s0 s1 m k → ok_3 J hp s0 s1 m k) ∧ (∀ hp s0 s1 m k, J hp s0 s1 m k → ∀ (a1 a2 : Int32), ok_4 J a1 a2 hp s0 s1 m k) ∧ (∀ hp s0 s1 m k, J hp s0 s1 m k → ok_5 J hp s0 s1 m k) ∧ (∀ hp s0 s1 m k, J hp s0 s1 m k → ∀ (a1 : Int32), ok_6 J a1 hp s0 s1 m k) ∧ (∀ hp s0 s1 m k, J hp s0 s1 m k → ∀ (a1 : Int32), ok_7 J a1 hp s0 s1 m k) ∧ (∀ hp s0 s1 m k, J hp s0 s1 m k → ∀ (a1 a2 : Int32), ok_8 J a1 a2 hp s0 s1 m k) ∧ (∀ hp s0 s1 m k, J hp s0 s1 m k → ∀ (a1 : Int32), ok_9 J a1 hp s0 s1 m k) ∧ (∀ hp s0 s1 m k, J hp s0 s1 m k → ∀ (a1 : Int32), ok_10 J a1 hp s0 s1 m k) ∧ (∀ hp s0 s1 m k, J hp s0 s1 m k → ∀ (a1 : Int32), ok_11 J a1 hp s0 s1 m k) ∧ (∀ hp s0 s1 m k, J hp s0 s1 m k → ∀ (a1 a2 : Int32), ok_12 J a1 a2 hp s0 s1 m k) ∧ (∀ hp s0 s1 m k, J hp s0 s1 m k → ∀ (a1 a2 : Int32), ok_13 J a1 a2 hp s0 s1 m k) ∧ (∀ hp s0 s1 m k, J hp s0 s1 m k → ok_14 J hp s0 s1 m k) ∧ (∀ hp s0 s1 m k, J hp s0 s1 m k → ok_15 J hp s0 s1 m k) ∧ (∀ hp s0 s1 m k, J hp s0 s1 m k → ∀ (a1 : Int32), ok_16 J a1 hp s0 s1 m k) ∧ (∀ hp s0 s1 m k, J hp s0 s1 m k → ∀ (a1 a2 : Int32), ok_17 J a1 a2 hp s0 s1 m k) ∧ (∀ hp s0 s1 m k, J hp s0 s1 m k → ∀ (a1 a2 a3 : Int32), ok_18 J a1 a2 a3 hp s0 s1 m k) ∧ (∀ hp s0 s1 m k, J hp s0 s1 m k → ∀ (a1 : Int32), ok_19 J a1 hp s0 s1 m k) ∧ (∀ hp s0 s1 m k, J hp s0 s1 m k → ∀ (a1 : Int32), ok_20 J a1 hp s0 s1 m k)
def zOne : Option Value → am_H → Prop := fun v _ => v = some (.int 1)
theorem lw_in {i L c : Nat} (h : i + c < L) (hL : L ≤ 2048) : vp_in (nI i + nI c) L := by
  rw [nI_add]
  exact vp_in_nI h (by omega)
theorem lw_cmp {L i : Nat} (h : L < i + 4) (hL : L ≤ 2048) (hi : i ≤ 2052) : Int32.ofNat L - 4 < nI i := by
  have e1 : (nI L - 4).toInt = (L : Int) - 4 := by
    have h4 : (4 : Int32).toInt = 4 := by decide
    rw [fb_subI (by rw [nI_toInt (by omega), h4]; omega) (by rw [nI_toInt (by omega), h4]; omega), nI_toInt (by omega), h4]
  have e2 : (nI i).toInt = (i : Int) := nI_toInt (by omega)
  show nI L - 4 < nI i
  rw [Int32.lt_iff_toInt_lt, e1, e2]
  omega
set_option maxRecDepth 20000 in
set_option maxHeartbeats 4000000 in
theorem law_loop {L : Nat} {xs : Nat → Int32} (hL : L ≤ 2048) {J : Bool → Bool → Bool → HM → Mu → Prop} (H : okAll J) : ∀ (r i : Nat) (hp s0 s1 : Bool) (m : HM) (k : Mu), L < i + 4 * (r + 1) → i ≤ 2052 → J hp s0 s1 m k → am_Ok mL_law (some (L, xs)) zOne (16 * r) (12311 * r) 18 (lwLs (nI i)) [] (fL hp s0 s1 m k) := by
  obtain ⟨H0, H1, H2, H3, H4, H5, H6, H7, H8, H9, H10, H11, H12, H13, H14, H15, H16, H17, H18, H19, H20⟩ := H
  intro r
  induction r with
  | zero =>
    intro i hp s0 s1 m k hr hi hJ
    refine am_iload_n dL_law_18 rfl ?_
    refine am_aload_n dL_law_19 rfl ?_
    refine am_slen rfl dL_law_20 ?_
    refine am_iconst dL_law_21 ic_4 ?_
    refine am_isub dL_law_22 ?_
    refine am_icmp_gt 687 dL_law_23 (by decide) (fun c => ?_) (fun c => ?_)
    · refine am_iconst dL_law_687 ic_1 ?_
      exact am_zreturn dL_law_688 rfl rfl rfl
    · exact absurd (lw_cmp (by omega) (by omega) (by omega)) c
  | succ r ih =>
    intro i hp s0 s1 m k hr hi hJ
    refine am_iload_n dL_law_18 rfl ?_
    refine am_aload_n dL_law_19 rfl ?_
    refine am_slen rfl dL_law_20 ?_
    refine am_iconst dL_law_21 ic_4 ?_
    refine am_isub dL_law_22 ?_
    refine am_icmp_gt 687 dL_law_23 (by decide) (fun c => ?_) (fun c => ?_)
    · refine am_iconst dL_law_687 ic_1 ?_
      exact am_zreturn dL_law_688 rfl rfl rfl
    · have hiL : i + 4 ≤ L := by
        rcases Nat.lt_or_ge L (i + 4) with h | h
        · exact absurd (lw_cmp h (by omega) (by omega)) c
        · exact h
      have hv0 : vp_in (nI i) L := vp_in_nI (by omega) (by omega)
      have hv1 : vp_in (nI i + 1) L := lw_in (c := 1) (by omega) hL
      have hv2 : vp_in (nI i + 2) L := lw_in (c := 2) (by omega) hL
      have hv3 : vp_in (nI i + 3) L := lw_in (c := 3) (by omega) hL
      have kk : ∀ hp s0 s1 m k, J hp s0 s1 m k → am_Ok mL_law (some (L, xs)) zOne (16 * r) (12311 * r) 681 (lwLs (nI i)) [] (fL hp s0 s1 m k) := by
        intro hp s0 s1 m k hJ
        refine am_iinc' (lf := fun y => lwLs y) dL_law_681 rfl rfl rfl ic_4 (fun _ => rfl) (fun y ey => ?_)
        refine am_goto 18 dL_law_684 (by decide) ?_
        have e : y = nI (i + 4) := by rw [ey]; exact nI_add i 4
        rw [e]
        exact ih (i + 4) hp s0 s1 m k (by omega) (by omega) hJ
      refine am_aload_n dL_law_26 rfl ?_
      refine am_iload_n dL_law_27 rfl ?_
      refine am_sld rfl dL_law_28 hv0 ?_
      refine am_bipush dL_law_29 bc_31 ?_
      refine am_iand dL_law_31 ?_
      obtain ⟨j, hj, ej⟩ := pk_andE (xs (nI i).toNatClampNeg) (m := 31) 5 (by decide)
      rw [ej]
      have ejI : (nI j).toInt = (j : Int) := nI_toInt (by omega)
      rw [show 16 * (r + 1) = 16 * r + 16 by omega, show 12311 * (r + 1) = 12311 * r + 12311 by omega]
      rcases (show j = 0 ∨ j = 1 ∨ j = 2 ∨ j = 3 ∨ j = 4 ∨ j = 5 ∨ j = 6 ∨ j = 7 ∨ j = 8 ∨ j = 9 ∨ j = 10 ∨ j = 11 ∨ j = 12 ∨ j = 13 ∨ j = 14 ∨ j = 15 ∨ j = 16 ∨ j = 17 ∨ j = 18 ∨ j = 19 ∨ j = 20 ∨ 20 < j by omega) with h | h | h | h | h | h | h | h | h | h | h | h | h | h | h | h | h | h | h | h | h | h
      · subst h
        refine am_tsw 0 132 dL_law_32 ejI (by decide) rfl (by decide) ?_
        exact lc_0 hv1 hv2 (H0 hp s0 s1 m k hJ _ _) kk
      · subst h
        refine am_tsw 1 165 dL_law_32 ejI (by decide) rfl (by decide) ?_
        exact lc_1 hv1 (H1 hp s0 s1 m k hJ _) kk
      · subst h
        refine am_tsw 2 188 dL_law_32 ejI (by decide) rfl (by decide) ?_
        exact lc_2 hv1 hv2 (H2 hp s0 s1 m k hJ _ _) kk
      · subst h
        refine am_tsw 3 221 dL_law_32 ejI (by decide) rfl (by decide) ?_
        exact lc_3 (H3 hp s0 s1 m k hJ ) kk
      · subst h
        refine am_tsw 4 234 dL_law_32 ejI (by decide) rfl (by decide) ?_
        exact lc_4 hv1 hv2 (H4 hp s0 s1 m k hJ _ _) kk
      · subst h
        refine am_tsw 5 283 dL_law_32 ejI (by decide) rfl (by decide) ?_
        exact lc_5 (H5 hp s0 s1 m k hJ ) kk
      · subst h
        refine am_tsw 6 296 dL_law_32 ejI (by decide) rfl (by decide) ?_
        exact lc_6 hv1 (H6 hp s0 s1 m k hJ _) kk
      · subst h
        refine am_tsw 7 319 dL_law_32 ejI (by decide) rfl (by decide) ?_
        exact lc_7 hv1 (H7 hp s0 s1 m k hJ _) kk
      · subst h
        refine am_tsw 8 342 dL_law_32 ejI (by decide) rfl (by decide) ?_
        exact lc_8 hv1 hv2 (H8 hp s0 s1 m k hJ _ _) kk
      · subst h
        refine am_tsw 9 375 dL_law_32 ejI (by decide) rfl (by decide) ?_
        exact lc_9 hv1 (H9 hp s0 s1 m k hJ _) kk
      · subst h
        refine am_tsw 10 398 dL_law_32 ejI (by decide) rfl (by decide) ?_
        exact lc_10 hv1 (H10 hp s0 s1 m k hJ _) kk
      · subst h
        refine am_tsw 11 421 dL_law_32 ejI (by decide) rfl (by decide) ?_
        exact lc_11 hv1 (H11 hp s0 s1 m k hJ _) kk
      · subst h
        refine am_tsw 12 444 dL_law_32 ejI (by decide) rfl (by decide) ?_
        exact lc_12 hv1 hv2 (H12 hp s0 s1 m k hJ _ _) kk
      · subst h
        refine am_tsw 13 477 dL_law_32 ejI (by decide) rfl (by decide) ?_
        exact lc_13 hv1 hv2 (H13 hp s0 s1 m k hJ _ _) kk
      · subst h
        refine am_tsw 14 510 dL_law_32 ejI (by decide) rfl (by decide) ?_
        exact lc_14 (H14 hp s0 s1 m k hJ ) kk
      · subst h
        refine am_tsw 15 523 dL_law_32 ejI (by decide) rfl (by decide) ?_
        exact lc_15 (H15 hp s0 s1 m k hJ ) kk
      · subst h
        refine am_tsw 16 536 dL_law_32 ejI (by decide) rfl (by decide) ?_
        exact lc_16 hv1 (H16 hp s0 s1 m k hJ _) kk
      · subst h
        refine am_tsw 17 559 dL_law_32 ejI (by decide) rfl (by decide) ?_
        exact lc_17 hv1 hv2 (H17 hp s0 s1 m k hJ _ _) kk
      · subst h
        refine am_tsw 18 592 dL_law_32 ejI (by decide) rfl (by decide) ?_
        exact lc_18 hv1 hv2 hv3 (H18 hp s0 s1 m k hJ _ _ _) kk
      · subst h
        refine am_tsw 19 635 dL_law_32 ejI (by decide) rfl (by decide) ?_
        exact lc_19 hv1 (H19 hp s0 s1 m k hJ _) kk
      · subst h
        refine am_tsw 20 658 dL_law_32 ejI (by decide) rfl (by decide) ?_
        exact lc_20 hv1 (H20 hp s0 s1 m k hJ _) kk
      · refine am_tswO 681 dL_law_32 (by rw [ejI]; omega) (by decide) ?_
        exact am_less (Nat.le_add_right _ _) (Nat.le_add_right _ _) (kk hp s0 s1 m k hJ)
