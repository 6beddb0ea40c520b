/-! the house's world: flags say which of planner, slot 0, slot 1 is there -/
def zH (K : Int32 → Bool → Bool → Bool → HM → Prop) : Option Value → am_H → Prop := fun v h => ∃ (x : Int32) (hp s0 s1 : Bool) (m : HM), v = some (.int x) ∧ h = fX4 hp s0 s1 m ∧ K x hp s0 s1 m
def zR (s0 s1 : Bool) (K : HM → Prop) : Option Value → am_H → Prop := fun v h => ∃ m : HM, v = some (.ref 10) ∧ h = fX4 true s0 s1 m ∧ K m
theorem f4_len (hp s0 s1 : Bool) (m : HM) : (fX4 hp s0 s1 m).length = 38 := rfl
theorem f4_ok (hp s0 s1 : Bool) (m : HM) : am_okh 38 (fX4 hp s0 s1 m) = true := by
  cases hp <;> cases s0 <;> cases s1 <;> rfl
def am_pres (hp s0 s1 : Bool) (i : Nat) : Bool := Nat.blt i 10 || ((Nat.ble 10 i && Nat.blt i 26) && hp || ((Nat.ble 26 i && Nat.blt i 32) && s0 || (Nat.ble 32 i && s1)))
def am_low (hp s0 s1 : Bool) (ls : List (Option Value)) (st : List Value) : Bool := (ls.all fun o => match o with | some (.ref i) => am_pres hp s0 s1 i | _ => true) && (st.all fun v => match v with | .ref i => am_pres hp s0 s1 i | _ => true)
theorem am_low_at {hp s0 s1 : Bool} {ls : List (Option Value)} {st : List Value} (h : am_low hp s0 s1 ls st = true) {k : Nat} (hk : am_pres hp s0 s1 k = false) : am_nl k ls = true ∧ am_ns k st = true := by
  simp only [am_low, Bool.and_eq_true] at h
  have key : ∀ i, am_pres hp s0 s1 i = true → (!Nat.beq i k) = true := by
    intro i hi
    cases hb : Nat.beq i k with
    | false => rfl
    | true =>
      have := Nat.eq_of_beq_eq_true hb
      subst this
      rw [hk] at hi
      cases hi
  refine ⟨List.all_eq_true.mpr (fun o ho => ?_), List.all_eq_true.mpr (fun v hv => ?_)⟩
  · have h1 := List.all_eq_true.mp h.1 o ho
    cases o with
    | none => rfl
    | some v => cases v <;> first | rfl | exact key _ h1
  · have h1 := List.all_eq_true.mp h.2 v hv
    cases v <;> first | rfl | exact key _ h1
theorem am_fr_of : ∀ (is : List Nat) (hc h : am_H) (ls : List (Option Value)) (st : List Value), (∀ (k i : Nat), is[k]? = some i → hc[k]? = some none → am_nh i h = true ∧ am_nl i ls = true ∧ am_ns i st = true) → am_fr is hc h ls st = true
  | [], _, _, _, _, _ => by unfold am_fr; rfl
  | _ :: _, [], _, _, _, _ => by unfold am_fr; rfl
  | i0 :: is, none :: os, h, ls, st, hf => by
    obtain ⟨h1, h2, h3⟩ := hf 0 i0 rfl rfl
    have h4 := am_fr_of is os h ls st (fun k i hi hk => hf (k + 1) i hi hk)
    simp [am_fr, h1, h2, h3, h4]
  | i0 :: is, some c :: os, h, ls, st, hf => by
    have h4 := am_fr_of is os h ls st (fun k i hi hk => hf (k + 1) i hi hk)
    simp [am_fr, h4]
theorem f4_none (hp s0 s1 : Bool) (m : HM) : ((List.range 38).all fun k => match (fX4 hp s0 s1 m)[k]? with | some none => am_nh k (fX4 hp s0 s1 m) && !am_pres hp s0 s1 k | _ => true) = true := by
  cases hp <;> cases s0 <;> cases s1 <;> rfl
theorem f4_fr (hp s0 s1 : Bool) (m : HM) {ls : List (Option Value)} {st : List Value} (h : am_low hp s0 s1 ls st = true) : am_fr (List.range 38) (fX4 hp s0 s1 m) (fX4 hp s0 s1 m) ls st = true := by
  refine am_fr_of _ _ _ _ _ (fun k i hi hk => ?_)
  have hlt : k < 38 := by have := (List.getElem?_eq_some_iff.mp hi).1; simpa using this
  rw [List.getElem?_range hlt] at hi
  cases hi
  have h1 := List.all_eq_true.mp (f4_none hp s0 s1 m) k (List.mem_range.mpr hlt)
  rw [hk] at h1
  simp only [Bool.and_eq_true] at h1
  exact ⟨h1.1, am_low_at h (by simpa using h1.2)⟩
section AMJ
variable {M M' : am_M} {sc : Option (Nat × (Nat → Int32))} {Z : Option Value → am_H → Prop} {nc ns pc : Nat} {ls : List (Option Value)} {st st0 : List Value} {idx n ci b n1 s1' : Nat} {fs args As : List Value} {T : u_T} {N : Nat} {m : HM} {hp s0 s1 : Bool}
theorem am_selfV4 {Zc : Option Value → am_H → Prop} (hd : decode M.2.1 pc = .ok (.invokevirtual idx, 3)) (q : am_qV M idx M' n) (hcl : vwCl[ci]? = some (M'.1.cls, T, N)) (hM : am_Met M' args (fX4 hp s0 s1 m) n1 s1' Zc) (hb : (fX4 hp s0 s1 m)[b]? = some (some (.inr (.inr (ci, fs))))) (ha : args = .ref b :: As) (hAs : As.length = n) (hst0 : As.reverse ++ .ref b :: st = st0) (hcat : Nat.ble (st.map fun v => v.category).sum 8 = true) (hlow : am_low hp s0 s1 ls st = true) (hn : n1 ≤ nc ∧ s1' ≤ ns)
    (hok : ∀ v h1, Zc v h1 → am_okh 38 h1 = true ∧ ∀ w, v = some w → am_okv 38 w = true)
    (k : ∀ v h1, Zc v h1 → am_Ok M sc Z (nc - n1) (ns - s1') (pc + 3) ls (v.toList ++ st) h1) : am_Ok M sc Z nc ns pc ls st0 (fX4 hp s0 s1 m) := by
  obtain ⟨q1, q2, q3, q4⟩ := q
  have hmap : args.map (am_v (am_ix (List.range 38))) = args := by
    rw [am_ix_range]
    conv => rhs; rw [← List.map_id args]
    exact List.map_congr_left (fun v _ => am_v_id v)
  refine am_callV (is := List.range 38) (n1 := n1) (s1 := s1') hd q1 q2 q3 q4 hcl hM hb (by rw [hmap]; exact ha) hAs hst0 (Nat.le_of_ble_eq_true hcat) (am_sub_range (fX4 hp s0 s1 m)) (am_nd_range 38) (by rw [f4_len]; decide) (by rw [List.length_range]; decide) (f4_fr hp s0 s1 m hlow) hn (by rw [f4_len]; exact hok) (fun v h1 hz hl1 => ?_)
  rw [am_tail, am_map_rn_range, am_put_range (by rw [hl1, f4_len]) (f4_len hp s0 s1 m)]
  exact k v h1 hz
theorem am_selfP4 {K : Int32 → Prop} (hd : decode M.2.1 pc = .ok (.invokevirtual idx, 3)) (q : am_qV M idx M' n) (hcl : vwCl[ci]? = some (M'.1.cls, T, N)) (hM : am_Met M' args (fX4 hp s0 s1 m) 0 0 (zP (fX4 hp s0 s1 m) K)) (hb : (fX4 hp s0 s1 m)[b]? = some (some (.inr (.inr (ci, fs))))) (ha : args = .ref b :: As) (hAs : As.length = n) (hst0 : As.reverse ++ .ref b :: st = st0) (hcat : Nat.ble (st.map fun v => v.category).sum 8 = true) (hlow : am_low hp s0 s1 ls st = true)
    (k : ∀ x, K x → am_Ok M sc Z nc ns (pc + 3) ls (.int x :: st) (fX4 hp s0 s1 m)) : am_Ok M sc Z nc ns pc ls st0 (fX4 hp s0 s1 m) :=
  am_selfV4 hd q hcl hM hb ha hAs hst0 hcat hlow ⟨Nat.zero_le _, Nat.zero_le _⟩ (by rintro v h1 ⟨x, rfl, rfl, -⟩; exact ⟨f4_ok _ _ _ _, fun w hw => by cases hw; rfl⟩) (by rintro v h1 ⟨x, rfl, rfl, hK⟩; exact k x hK)
theorem am_selfI4 {K : Int32 → HM → Prop} (hd : decode M.2.1 pc = .ok (.invokevirtual idx, 3)) (q : am_qV M idx M' n) (hcl : vwCl[ci]? = some (M'.1.cls, T, N)) (hM : am_Met M' args (fX4 hp s0 s1 m) 0 0 (zI (fX4 hp s0 s1) K)) (hb : (fX4 hp s0 s1 m)[b]? = some (some (.inr (.inr (ci, fs))))) (ha : args = .ref b :: As) (hAs : As.length = n) (hst0 : As.reverse ++ .ref b :: st = st0) (hcat : Nat.ble (st.map fun v => v.category).sum 8 = true) (hlow : am_low hp s0 s1 ls st = true)
    (k : ∀ x m1, K x m1 → am_Ok M sc Z nc ns (pc + 3) ls (.int x :: st) (fX4 hp s0 s1 m1)) : am_Ok M sc Z nc ns pc ls st0 (fX4 hp s0 s1 m) :=
  am_selfV4 hd q hcl hM hb ha hAs hst0 hcat hlow ⟨Nat.zero_le _, Nat.zero_le _⟩ (by rintro v h1 ⟨x, m1, rfl, rfl, -⟩; exact ⟨f4_ok _ _ _ _, fun w hw => by cases hw; rfl⟩) (by rintro v h1 ⟨x, m1, rfl, rfl, hK⟩; exact k x m1 hK)
theorem am_selfU4 {K : HM → Prop} (hd : decode M.2.1 pc = .ok (.invokevirtual idx, 3)) (q : am_qV M idx M' n) (hcl : vwCl[ci]? = some (M'.1.cls, T, N)) (hM : am_Met M' args (fX4 hp s0 s1 m) 0 0 (zV (fX4 hp s0 s1) K)) (hb : (fX4 hp s0 s1 m)[b]? = some (some (.inr (.inr (ci, fs))))) (ha : args = .ref b :: As) (hAs : As.length = n) (hst0 : As.reverse ++ .ref b :: st = st0) (hcat : Nat.ble (st.map fun v => v.category).sum 8 = true) (hlow : am_low hp s0 s1 ls st = true)
    (k : ∀ m1, K m1 → am_Ok M sc Z nc ns (pc + 3) ls st (fX4 hp s0 s1 m1)) : am_Ok M sc Z nc ns pc ls st0 (fX4 hp s0 s1 m) :=
  am_selfV4 hd q hcl hM hb ha hAs hst0 hcat hlow ⟨Nat.zero_le _, Nat.zero_le _⟩ (by rintro v h1 ⟨m1, rfl, rfl, -⟩; exact ⟨f4_ok _ _ _ _, fun w hw => by cases hw⟩) (by rintro v h1 ⟨m1, rfl, rfl, hK⟩; exact k m1 hK)
theorem am_ready {K : HM → Prop} (hd : decode M.2.1 pc = .ok (.invokevirtual idx, 3)) (q : am_qV M idx mX4_readyPlanner 0) (hM : am_Met mX4_readyPlanner [.ref 0] (fX4 hp s0 s1 m) 16 12311 (zR s0 s1 K)) (hst0 : .ref 0 :: st = st0) (hcat : Nat.ble (st.map fun v => v.category).sum 8 = true) (hlow : am_low hp s0 s1 ls st = true) (hn : 16 ≤ nc ∧ 12311 ≤ ns)
    (k : ∀ m1, K m1 → am_Ok M sc Z (nc - 16) (ns - 12311) (pc + 3) ls (.ref 10 :: st) (fX4 true s0 s1 m1)) : am_Ok M sc Z nc ns pc ls st0 (fX4 hp s0 s1 m) :=
  am_selfV4 (ci := 4) (b := 0) (As := []) hd q rfl hM rfl rfl rfl hst0 hcat hlow hn (by rintro v h1 ⟨m1, rfl, rfl, -⟩; exact ⟨f4_ok _ _ _ _, fun w hw => by cases hw; rfl⟩) (by rintro v h1 ⟨m1, rfl, rfl, hK⟩; exact k m1 hK)
end AMJ
theorem vi_0 : vp_in (0 : Int32) 2 := by unfold vp_in; decide
theorem vi_1 : vp_in (1 : Int32) 2 := by unfold vp_in; decide
