def zF (n : Nat) (v : Int32) (f : Nat → Int32) : Option Value → am_H → Prop := fun x h => x = none ∧ h = [some (.inl (0, n, am_fill n v f))]
theorem am_fill_step (i : Nat) (hi : i < 2 ^ 31) (v : Int32) (f : Nat → Int32) : upd (am_fill i v f) (nI i).toNatClampNeg v = am_fill (i + 1) v f := by
  funext j
  rw [nI_clamp hi]
  simp only [upd, am_fill]
  by_cases hj : j = i
  · subst hj; simp
  · rw [if_neg hj]
    by_cases h2 : j < i
    · rw [if_pos h2, if_pos (by omega)]
    · rw [if_neg h2, if_neg (by omega)]
theorem am_fill_loop {n : Nat} (hn : n < 2 ^ 31) (v : Int32) (f : Nat → Int32) : ∀ (k i : Nat), i + k = n → am_Ok mJ7_fill_53178 none (zF n v f) 0 0 5 [some (.ref 0), some (.int v), some (.int (nI i)), some (.int (nI n))] [] [some (.inl (0, n, am_fill i v f))] := by
  intro k
  induction k with
  | zero =>
    intro i hi
    have : i = n := by omega
    subst this
    refine am_iload_n dJ7_fill_53178_5 rfl ?_
    refine am_iload_n dJ7_fill_53178_6 rfl ?_
    refine am_icmp_ge 20 dJ7_fill_53178_7 (by decide) (fun c => ?_) (fun c => absurd (Int32.le_refl _) c)
    exact am_vreturn dJ7_fill_53178_20 rfl ⟨rfl, rfl⟩
  | succ k ih =>
    intro i hi
    refine am_iload_n dJ7_fill_53178_5 rfl ?_
    refine am_iload_n dJ7_fill_53178_6 rfl ?_
    refine am_icmp_ge 20 dJ7_fill_53178_7 (by decide) (fun c => absurd c (nI_ge (by omega) hn)) (fun c => ?_)
    refine am_aload_n dJ7_fill_53178_10 rfl ?_
    refine am_iload_n dJ7_fill_53178_11 rfl ?_
    refine am_iload_n dJ7_fill_53178_12 rfl ?_
    refine am_iastore dJ7_fill_53178_13 rfl (vp_in_nI (by omega) hn) ?_
    refine am_hp (h2 := [some (.inl (0, n, am_fill (i + 1) v f))]) (by rw [am_fill_step i (by omega)]; rfl) ?_
    refine am_iinc' (lf := fun y => [some (.ref 0), some (.int v), some (.int y), some (.int (nI n))]) dJ7_fill_53178_14 rfl rfl rfl ic_1 (fun _ => rfl) (fun y ey => ?_)
    refine am_goto 5 dJ7_fill_53178_17 (by decide) ?_
    have e : y = nI (i + 1) := by rw [ey]; exact nI_1 i
    rw [e]
    exact ih (i + 1) (by omega)
theorem am_fill_met {n : Nat} (hn : n < 2 ^ 31) (v : Int32) (f : Nat → Int32) : am_Met mJ7_fill_53178 [.ref 0, .int v] [some (.inl (0, n, f))] 0 0 (zF n v f) := by
  refine am_Met.of2 (ls := [some (.ref 0), some (.int v), none, none]) pf_J7_fill_53178 rfl rfl rfl rfl ?_
  refine am_iconst dJ7_fill_53178_0 ic_0 ?_
  refine am_istore_n' (ls' := [some (.ref 0), some (.int v), some (.int 0), none]) dJ7_fill_53178_1 rfl rfl rfl ?_
  refine am_aload_n dJ7_fill_53178_2 rfl ?_
  refine am_alen (t := 0) (v := nI n) dJ7_fill_53178_3 rfl rfl ?_
  refine am_istore_n' (ls' := [some (.ref 0), some (.int v), some (.int 0), some (.int (nI n))]) dJ7_fill_53178_4 rfl rfl rfl ?_
  have e : f = am_fill 0 v f := by
    funext j
    simp [am_fill]
  have := am_fill_loop hn v f n 0 (by omega)
  rw [← e, nI_0] at this
  exact this
theorem am_fillS {M : am_M} {sc : Option (Nat × (Nat → Int32))} {Z : Option Value → am_H → Prop} {nc ns pc idx n : Nat} {ls : List (Option Value)} {st : List Value} {h : am_H} {v : Int32} {f : Nat → Int32} (q0 : Nat) (hd : decode M.2.1 pc = .ok (.invokestatic idx, 3)) (q : am_qS M idx mJ7_fill_53178 2 ∨ am_qN M idx mJ7_fill_53178 2) (hq : h[q0]? = some (some (.inl (0, n, f)))) (hn : Nat.ble n 100000 = true) (hcat : Nat.ble (st.map fun v => v.category).sum 8 = true) (hlen : Nat.ble h.length 1000 = true)
    (k : am_Ok M sc Z nc ns (pc + 3) ls st (h.set q0 (some (.inl (0, n, am_fill n v f))))) : am_Ok M sc Z nc ns pc ls (.int v :: .ref q0 :: st) h := by
  have hn2 : n < 2 ^ 31 := by have := Nat.le_of_ble_eq_true hn; omega
  have hok : ∀ x h1, zF n v f x h1 → am_okh [some (.inl (0, n, f) : am_C)].length h1 = true ∧ ∀ w, x = some w → am_okv [some (.inl (0, n, f) : am_C)].length w = true := by
    rintro x h1 ⟨rfl, rfl⟩
    exact ⟨rfl, fun w hw => by cases hw⟩
  have k2 : ∀ x h1, zF n v f x h1 → h1.length = [some (.inl (0, n, f) : am_C)].length → am_Ok M sc Z (nc - 0) (ns - 0) (pc + 3) ls ((x.map (am_v (am_ix [q0]))).toList ++ st) (am_put [q0] (h1.map (Option.map (am_rn [q0]))) h) := by
    rintro x h1 ⟨rfl, rfl⟩ -
    exact k
  rcases q with ⟨q1, q2, q3⟩ | ⟨q1, ⟨host, q2⟩, q3⟩
  · exact am_callS (is := [q0]) (As := [.ref q0, .int v]) (n1 := 0) (s1 := 0) hd q1 q2 q3 (am_fill_met hn2 v f) rfl rfl rfl (Nat.le_of_ble_eq_true hcat) (by show [h[q0]?] = [some _]; rw [hq]; rfl) (by simp [va_nd]) (Nat.le_of_ble_eq_true hlen) (by show 1 ≤ 1000; omega) (by unfold am_fr; unfold am_fr; rfl) ⟨Nat.zero_le _, Nat.zero_le _⟩ hok k2
  · exact am_callSN (is := [q0]) (As := [.ref q0, .int v]) (n1 := 0) (s1 := 0) hd q1 q2 q3 (am_fill_met hn2 v f) rfl rfl rfl (Nat.le_of_ble_eq_true hcat) (by show [h[q0]?] = [some _]; rw [hq]; rfl) (by simp [va_nd]) (Nat.le_of_ble_eq_true hlen) (by show 1 ≤ 1000; omega) (by unfold am_fr; unfold am_fr; rfl) ⟨Nat.zero_le _, Nat.zero_le _⟩ hok k2
