def i4 : HM := (0, mu_set (fun _ _ => 0) 0 (upd (fun _ => 0) 12 30), (fun _ _ => 0), (fun _ _ => 0), (fun _ _ => 0), (fun _ _ => 0))
def i5 : Mu := (mu_set (mu_set (fun _ _ => 0) 0 (upd (fun _ => 0) 12 30)) 32 (upd (fun _ => 0) 6 (-11)))
def h4 : am_H := [some (.inr (.inr (4, [.null, .null, .null, .null, .int 0]))), none, none, none, none, none, none, none, none, none, none, none, none, none, none, none, none, none, none, none, none, none, none, none, none, none, none, none, none, none, none, none, none, none, none, none, none, none]
def h5 : am_H := [some (.inr (.inr (5, [.null, .null, .null, .int 0, .int 0, .null, .int 0, .int 0, .null, .null, .int 0, .null, .null, .int 0, .null, .null, .null, .null, .int 0, .null, .null, .null, .null, .null, .null, .null, .null, .null, .null, .int 0, .int 0, .int 0]))), none, none, none, none, none, none, none, none, none, none, none, none, none, none, none, none, none, none, none, none, none, none]
theorem h5_rn : h5.map (Option.map (am_rn (List.range' 38 23))) = h5 := rfl
theorem en_fr4 : am_fr (List.range 38) h4 (h4 ++ List.replicate 23 none) [some (.ref 1000), none, none, none] [.ref 0] = true := rfl
theorem en_fr5 : am_fr (List.range' 38 23) h5 (fX4 false false false i4 ++ h5) [some (.ref 1000), some (.ref 0), none, none] [.ref 38] = true := rfl
theorem en_nh : am_nh 38 (fX4 false false false i4 ++ List.replicate 23 none) = true := rfl
set_option maxRecDepth 20000 in
set_option maxHeartbeats 4000000 in
theorem law_entry {L : Nat} {xs : Nat → Int32} (hL : L ≤ 2048) {J : Bool → Bool → Bool → HM → Mu → Prop} (H : okAll J) (h0 : J false false false i4 i5) : am_Ok mL_law (some (L, xs)) zOne 8225 6360376 0 [some (.ref 1000), none, none, none] [] (List.replicate 61 none) := by
  refine am_new (q := 0) (fs := [.null, .null, .null, .null, .int 0]) dL_law_0 cl_X4 wd_65 wd_66 wd_55 (fun j hj => by rcases (show j = 0 ∨ j = 1 ∨ j = 2 ∨ j = 3 ∨ j = 4 by omega) with rfl | rfl | rfl | rfl | rfl <;> rfl) (fun _ => rfl) rfl rfl rfl rfl ⟨by decide, by decide⟩ ?_
  refine am_hp (h2 := h4 ++ List.replicate 23 none) rfl ?_
  refine am_dup dL_law_3 rfl ?_
  refine am_callI (is := List.range 38) (hc := h4) (st := [.ref 0]) (b := 0) (As := []) dL_law_4 q_L_law_9.1 rfl rfl q_L_law_9.2.1 q_L_law_9.2.2 sX4_init rfl rfl rfl (by decide) (am_sub_pre h4 (List.replicate 23 none)) (am_nd_range 38) (by decide) (by decide) en_fr4 ⟨by decide, by decide⟩ (by rintro v h1 ⟨rfl, rfl⟩; exact ⟨f4_ok _ _ _ _, fun w hw => by cases hw⟩) ?_
  rintro v h1 ⟨rfl, rfl⟩ -
  show am_Ok mL_law (some (L, xs)) zOne _ _ _ _ _ (am_put (List.range 38) ((fX4 false false false i4).map (Option.map (am_rn (List.range 38)))) (h4 ++ List.replicate 23 none))
  rw [am_tail, am_map_rn_range, am_put_pre (k := 38) (os := fX4 false false false i4) (h := h4) (List.replicate 23 none) rfl rfl]
  refine am_astore_n' (ls' := [some (.ref 1000), some (.ref 0), none, none]) dL_law_7 rfl rfl rfl ?_
  refine am_new (q := 38) (fs := [.null, .null, .null, .int 0, .int 0, .null, .int 0, .int 0, .null, .null, .int 0, .null, .null, .int 0, .null, .null, .null, .null, .int 0, .null, .null, .null, .null, .null, .null, .null, .null, .null, .null, .int 0, .int 0, .int 0]) dL_law_8 cl_X5 wd_589 wd_590 wd_58 (fun j hj => by rcases (show j = 0 ∨ j = 1 ∨ j = 2 ∨ j = 3 ∨ j = 4 ∨ j = 5 ∨ j = 6 ∨ j = 7 ∨ j = 8 ∨ j = 9 ∨ j = 10 ∨ j = 11 ∨ j = 12 ∨ j = 13 ∨ j = 14 ∨ j = 15 ∨ j = 16 ∨ j = 17 ∨ j = 18 ∨ j = 19 ∨ j = 20 ∨ j = 21 ∨ j = 22 ∨ j = 23 ∨ j = 24 ∨ j = 25 ∨ j = 26 ∨ j = 27 ∨ j = 28 ∨ j = 29 ∨ j = 30 ∨ j = 31 by omega) with rfl | rfl | rfl | rfl | rfl | rfl | rfl | rfl | rfl | rfl | rfl | rfl | rfl | rfl | rfl | rfl | rfl | rfl | rfl | rfl | rfl | rfl | rfl | rfl | rfl | rfl | rfl | rfl | rfl | rfl | rfl | rfl <;> rfl) (fun _ => rfl) rfl en_nh rfl rfl ⟨by decide, by decide⟩ ?_
  refine am_hp (h2 := fX4 false false false i4 ++ h5.map (Option.map (am_rn (List.range' 38 23)))) rfl ?_
  refine am_dup dL_law_11 rfl ?_
  refine am_callI (is := List.range' 38 23) (hc := h5) (st := [.ref 38]) (b := 38) (As := []) dL_law_12 q_L_law_12.1 rfl rfl q_L_law_12.2.1 q_L_law_12.2.2 sX5_init rfl rfl rfl (by decide) (am_sub_sfx (fX4 false false false i4) h5 rfl) (am_nd_range' 38 23) (by decide) (by decide) (by rw [h5_rn]; exact en_fr5) ⟨by decide, by decide⟩ (by rintro v h1 ⟨rfl, rfl⟩; exact ⟨(fam_X5 i5).2.1, fun w hw => by cases hw⟩) ?_
  rintro v h1 ⟨rfl, rfl⟩ -
  show am_Ok mL_law (some (L, xs)) zOne _ _ _ _ _ (am_put (List.range' 38 23) (gM i5) (fX4 false false false i4 ++ h5.map (Option.map (am_rn (List.range' 38 23)))))
  rw [am_put_sfx (a := 38) (n := 23) (os := gM i5) (g := h5.map (Option.map (am_rn (List.range' 38 23)))) (fX4 false false false i4) rfl rfl rfl]
  refine am_astore_n' (ls' := [some (.ref 1000), some (.ref 0), some (.ref 38), none]) dL_law_15 rfl rfl rfl ?_
  refine am_iconst dL_law_16 ic_0 ?_
  refine am_istore_n' (ls' := lwLs (nI 0)) dL_law_17 rfl rfl rfl ?_
  exact am_less (by decide) (by decide) (law_loop hL H 512 0 false false false i4 i5 (by omega) (by omega) h0)
