theorem am_sub_r (ws : List Cond) (ps : List Nat) (hp : ws = ps.filterMap (fun i => lw_tbl[i]?)) (hg : ws.all goodWord = true) : ∀ w ∈ ws, w ∈ am_T := by
  intro w hw
  have h1 := List.all_eq_true.mp hg w hw
  rw [hp] at hw
  obtain ⟨i, -, hi⟩ := List.mem_filterMap.mp hw
  exact am_T_in i hi h1
/-- what stands behind am_put, place by place: the written places is, the others js -/
theorem am_put_eq {is : List Nat} {os h h' : am_H} (js : List Nat) (hnd : va_nd is = true) (hj : ((List.range h.length).all fun i => is.contains i || js.contains i) = true) (hl : h'.length = h.length) (ho : os.length = is.length) (hi : (is.all fun i => Nat.blt i h.length) = true) (h1 : is.map (fun i => h'[i]?) = os.map some) (h2 : js.map (fun i => h'[i]?) = js.map (fun i => h[i]?)) : am_put is os h = h' := by
  apply List.ext_getElem?
  intro i
  by_cases hm : i ∈ is
  · obtain ⟨k, hk⟩ := List.getElem?_of_mem hm
    have hkl := (List.getElem?_eq_some_iff.mp hk).1
    have hok : os[k]? = some os[k] := List.getElem?_eq_getElem (by omega)
    have hlt : i < h.length := by have := List.all_eq_true.mp hi i hm; simpa [Nat.blt_eq] using this
    rw [am_put_in is os h (va_nd_inj is hnd) k i _ hk hok hlt]
    have h3 : (is.map (fun i => h'[i]?))[k]? = some (some os[k]) := by rw [h1, List.getElem?_map, hok]; rfl
    rw [List.getElem?_map, hk] at h3
    exact (Option.some.inj h3).symm
  · rw [am_put_out is os h i hm]
    by_cases hlt : i < h.length
    · have h3 := List.all_eq_true.mp hj i (List.mem_range.mpr hlt)
      simp only [Bool.or_eq_true, List.contains_iff_mem] at h3
      rcases h3 with h3 | h3
      · exact absurd h3 hm
      · have h4 := List.map_inj_left.mp h2 i h3
        exact h4.symm
    · rw [List.getElem?_eq_none (by omega), List.getElem?_eq_none (by omega)]
theorem am_put_same {is : List Nat} {hc h : am_H} (hsub : is.map (fun i => h[i]?) = hc.map (fun o => some (o.map (am_rn is)))) (hnd : va_nd is = true) : am_put is (hc.map (Option.map (am_rn is))) h = h := by
  obtain ⟨hl, hget⟩ := am_sub_get hsub
  apply List.ext_getElem?
  intro i
  by_cases hm : i ∈ is
  · obtain ⟨k, hk⟩ := List.getElem?_of_mem hm
    have hkl := (List.getElem?_eq_some_iff.mp hk).1
    have hck : hc[k]? = some hc[k] := List.getElem?_eq_getElem (by omega)
    obtain ⟨i', h1, h2⟩ := hget k _ hck
    have e : i' = i := Option.some.inj (h1.symm.trans hk)
    subst e
    rw [am_put_in is _ h (va_nd_inj is hnd) k i' (hc[k].map (am_rn is)) hk (by rw [List.getElem?_map, hck]; rfl) (List.getElem?_eq_some_iff.mp h2).1, h2]
  · exact am_put_out is _ h i hm
section AMW
variable {M M' : am_M} {sc : Option (Nat × (Nat → Int32))} {Z : Option Value → am_H → Prop} {nc ns pc : Nat} {ls : List (Option Value)} {st st0 : List Value} {h : am_H} {F : Mu → am_H} {n0 idx n ci b : Nat} {fs args As : List Value} {T : u_T} {N : Nat} {m : Mu}
theorem am_selfP {K : Int32 → Prop} (hF : am_fam F n0) (hn0 : Nat.ble n0 1000 = true) (hd : decode M.2.1 pc = .ok (.invokevirtual idx, 3)) (q : am_qV M idx M' n) (hcl : vwCl[ci]? = some (M'.1.cls, T, N)) (hM : am_Met M' args (F m) 0 0 (zP (F m) K)) (hb : (F m)[b]? = some (some (.inr (.inr (ci, fs))))) (ha : args = .ref b :: As) (hAs : As.length = n) (hst0 : As.reverse ++ .ref b :: st = st0) (hcat : Nat.ble (st.map fun v => v.category).sum 8 = true)
    (k : ∀ x, K x → am_Ok M sc Z nc ns (pc + 3) ls (.int x :: st) (F m)) : am_Ok M sc Z nc ns pc ls st0 (F m) :=
  am_selfV hF hn0 hd q hcl hM hb ha hAs hst0 hcat (zP_ok hF) (by rintro v h1 ⟨x, rfl, rfl, hK⟩; exact k x hK)
theorem am_selfQ {K : Nat → Prop} (hF : am_fam F n0) (hn0 : Nat.ble n0 1000 = true) (hd : decode M.2.1 pc = .ok (.invokevirtual idx, 3)) (q : am_qV M idx M' n) (hcl : vwCl[ci]? = some (M'.1.cls, T, N)) (hM : am_Met M' args (F m) 0 0 (zQ (F m) K)) (hb : (F m)[b]? = some (some (.inr (.inr (ci, fs))))) (ha : args = .ref b :: As) (hAs : As.length = n) (hst0 : As.reverse ++ .ref b :: st = st0) (hcat : Nat.ble (st.map fun v => v.category).sum 8 = true)
    (k : ∀ x, K x → am_Ok M sc Z nc ns (pc + 3) ls (.ref x :: st) (F m)) : am_Ok M sc Z nc ns pc ls st0 (F m) :=
  am_selfV hF hn0 hd q hcl hM hb ha hAs hst0 hcat (zQ_ok hF) (by rintro v h1 ⟨x, rfl, rfl, -, hK⟩; exact k x hK)
theorem am_selfI {K : Int32 → Mu → Prop} (hF : am_fam F n0) (hn0 : Nat.ble n0 1000 = true) (hd : decode M.2.1 pc = .ok (.invokevirtual idx, 3)) (q : am_qV M idx M' n) (hcl : vwCl[ci]? = some (M'.1.cls, T, N)) (hM : am_Met M' args (F m) 0 0 (zI F K)) (hb : (F m)[b]? = some (some (.inr (.inr (ci, fs))))) (ha : args = .ref b :: As) (hAs : As.length = n) (hst0 : As.reverse ++ .ref b :: st = st0) (hcat : Nat.ble (st.map fun v => v.category).sum 8 = true)
    (k : ∀ x m1, K x m1 → am_Ok M sc Z nc ns (pc + 3) ls (.int x :: st) (F m1)) : am_Ok M sc Z nc ns pc ls st0 (F m) :=
  am_selfV hF hn0 hd q hcl hM hb ha hAs hst0 hcat (zI_ok hF) (by rintro v h1 ⟨x, m1, rfl, rfl, hK⟩; exact k x m1 hK)
theorem am_selfU {K : Mu → Prop} (hF : am_fam F n0) (hn0 : Nat.ble n0 1000 = true) (hd : decode M.2.1 pc = .ok (.invokevirtual idx, 3)) (q : am_qV M idx M' n) (hcl : vwCl[ci]? = some (M'.1.cls, T, N)) (hM : am_Met M' args (F m) 0 0 (zV F K)) (hb : (F m)[b]? = some (some (.inr (.inr (ci, fs))))) (ha : args = .ref b :: As) (hAs : As.length = n) (hst0 : As.reverse ++ .ref b :: st = st0) (hcat : Nat.ble (st.map fun v => v.category).sum 8 = true)
    (k : ∀ m1, K m1 → am_Ok M sc Z nc ns (pc + 3) ls st (F m1)) : am_Ok M sc Z nc ns pc ls st0 (F m) :=
  am_selfV hF hn0 hd q hcl hM hb ha hAs hst0 hcat (zV_ok hF) (by rintro v h1 ⟨m1, rfl, rfl, hK⟩; exact k m1 hK)
theorem am_partP {K : Int32 → Prop} {args' : List Value} (is : List Nat) (hF : am_fam F n0) (hd : decode M.2.1 pc = .ok (.invokevirtual idx, 3)) (q : am_qV M idx M' n) (hcl : vwCl[ci]? = some (M'.1.cls, T, N)) (hM : am_Met M' args' (F m) 0 0 (zP (F m) K)) (hb : h[b]? = some (some (.inr (.inr (ci, fs))))) (ha : args'.map (am_v (am_ix is)) = .ref b :: As) (hAs : As.length = n) (hst0 : As.reverse ++ .ref b :: st = st0) (hcat : Nat.ble (st.map fun v => v.category).sum 8 = true)
    (hsub : is.map (fun i => h[i]?) = (F m).map (fun o => some (o.map (am_rn is)))) (hnd : va_nd is = true) (hlen : Nat.ble h.length 1000 = true) (hil : Nat.ble is.length 1000 = true)
    (k : ∀ x, K x → am_Ok M sc Z nc ns (pc + 3) ls (.int x :: st) h) : am_Ok M sc Z nc ns pc ls st0 h :=
  am_partV is hF hd q hcl hM hb ha hAs hst0 hcat hsub hnd hlen hil (zP_ok hF) (by rintro v h1 ⟨x, rfl, rfl, hK⟩; rw [am_put_same hsub hnd]; exact k x hK)
theorem am_partQ {K : Nat → Prop} {args' : List Value} (is : List Nat) (hF : am_fam F n0) (hd : decode M.2.1 pc = .ok (.invokevirtual idx, 3)) (q : am_qV M idx M' n) (hcl : vwCl[ci]? = some (M'.1.cls, T, N)) (hM : am_Met M' args' (F m) 0 0 (zQ (F m) K)) (hb : h[b]? = some (some (.inr (.inr (ci, fs))))) (ha : args'.map (am_v (am_ix is)) = .ref b :: As) (hAs : As.length = n) (hst0 : As.reverse ++ .ref b :: st = st0) (hcat : Nat.ble (st.map fun v => v.category).sum 8 = true)
    (hsub : is.map (fun i => h[i]?) = (F m).map (fun o => some (o.map (am_rn is)))) (hnd : va_nd is = true) (hlen : Nat.ble h.length 1000 = true) (hil : Nat.ble is.length 1000 = true)
    (k : ∀ x, K x → am_Ok M sc Z nc ns (pc + 3) ls (.ref (am_ix is x) :: st) h) : am_Ok M sc Z nc ns pc ls st0 h :=
  am_partV is hF hd q hcl hM hb ha hAs hst0 hcat hsub hnd hlen hil (zQ_ok hF) (by rintro v h1 ⟨x, rfl, rfl, -, hK⟩; rw [am_put_same hsub hnd]; exact k x hK)
theorem am_partI {K : Int32 → Mu → Prop} {args' : List Value} (is : List Nat) (hF : am_fam F n0) (hd : decode M.2.1 pc = .ok (.invokevirtual idx, 3)) (q : am_qV M idx M' n) (hcl : vwCl[ci]? = some (M'.1.cls, T, N)) (hM : am_Met M' args' (F m) 0 0 (zI F K)) (hb : h[b]? = some (some (.inr (.inr (ci, fs))))) (ha : args'.map (am_v (am_ix is)) = .ref b :: As) (hAs : As.length = n) (hst0 : As.reverse ++ .ref b :: st = st0) (hcat : Nat.ble (st.map fun v => v.category).sum 8 = true)
    (hsub : is.map (fun i => h[i]?) = (F m).map (fun o => some (o.map (am_rn is)))) (hnd : va_nd is = true) (hlen : Nat.ble h.length 1000 = true) (hil : Nat.ble is.length 1000 = true)
    (k : ∀ x m1, K x m1 → am_Ok M sc Z nc ns (pc + 3) ls (.int x :: st) (am_put is ((F m1).map (Option.map (am_rn is))) h)) : am_Ok M sc Z nc ns pc ls st0 h :=
  am_partV is hF hd q hcl hM hb ha hAs hst0 hcat hsub hnd hlen hil (zI_ok hF) (by rintro v h1 ⟨x, m1, rfl, rfl, hK⟩; exact k x m1 hK)
theorem am_partU {K : Mu → Prop} {args' : List Value} (is : List Nat) (hF : am_fam F n0) (hd : decode M.2.1 pc = .ok (.invokevirtual idx, 3)) (q : am_qV M idx M' n) (hcl : vwCl[ci]? = some (M'.1.cls, T, N)) (hM : am_Met M' args' (F m) 0 0 (zV F K)) (hb : h[b]? = some (some (.inr (.inr (ci, fs))))) (ha : args'.map (am_v (am_ix is)) = .ref b :: As) (hAs : As.length = n) (hst0 : As.reverse ++ .ref b :: st = st0) (hcat : Nat.ble (st.map fun v => v.category).sum 8 = true)
    (hsub : is.map (fun i => h[i]?) = (F m).map (fun o => some (o.map (am_rn is)))) (hnd : va_nd is = true) (hlen : Nat.ble h.length 1000 = true) (hil : Nat.ble is.length 1000 = true)
    (k : ∀ m1, K m1 → am_Ok M sc Z nc ns (pc + 3) ls st (am_put is ((F m1).map (Option.map (am_rn is))) h)) : am_Ok M sc Z nc ns pc ls st0 h :=
  am_partV is hF hd q hcl hM hb ha hAs hst0 hcat hsub hnd hlen hil (zV_ok hF) (by rintro v h1 ⟨m1, rfl, rfl, hK⟩; exact k m1 hK)
-- the callee's world stands first
theorem am_sub_pre (h g : am_H) : (List.range h.length).map (fun i => (h ++ g)[i]?) = h.map (fun o => some (o.map (am_rn (List.range h.length)))) := by
  rw [← am_sub_range h]
  refine List.map_congr_left (fun i hi => ?_)
  rw [List.getElem?_append_left (List.mem_range.mp hi)]
theorem am_put_pre {k : Nat} {os h : am_H} (g : am_H) (h1 : os.length = k) (h2 : h.length = k) : am_put (List.range k) os (h ++ g) = os ++ g := by
  apply List.ext_getElem?
  intro i
  by_cases hi : i < k
  · have ho : os[i]? = some os[i] := List.getElem?_eq_getElem (by omega)
    rw [List.getElem?_append_left (by omega), ho]
    exact am_put_in (List.range k) os (h ++ g) (va_nd_inj _ (am_nd_range k)) i i _ (List.getElem?_range hi) ho (by rw [List.length_append]; omega)
  · rw [am_put_out _ _ _ i (fun z => hi (List.mem_range.mp z)), List.getElem?_append_right (by omega), List.getElem?_append_right (by omega), h1, h2]
theorem am_preV {Zc : Option Value → am_H → Prop} (g : am_H) (hF : am_fam F n0) (hn0 : Nat.ble (n0 + g.length) 1000 = true) (hd : decode M.2.1 pc = .ok (.invokevirtual idx, 3)) (q : am_qV M idx M' n) (hcl : vwCl[ci]? = some (M'.1.cls, T, N)) (hM : am_Met M' args (F m) 0 0 Zc) (hb : (F m)[b]? = some (some (.inr (.inr (ci, fs))))) (ha : args = .ref b :: As) (hAs : As.length = n) (hst0 : As.reverse ++ .ref b :: st = st0) (hcat : Nat.ble (st.map fun v => v.category).sum 8 = true)
    (hok : ∀ v h1, Zc v h1 → am_okh n0 h1 = true ∧ ∀ w, v = some w → am_okv n0 w = true)
    (k : ∀ v h1, Zc v h1 → am_Ok M sc Z nc ns (pc + 3) ls (v.toList ++ st) (h1 ++ g)) : am_Ok M sc Z nc ns pc ls st0 (F m ++ g) := by
  obtain ⟨q1, q2, q3, q4⟩ := q
  have hl := (hF m).1
  have hb0 := Nat.le_of_ble_eq_true hn0
  have hmap : args.map (am_v (am_ix (List.range n0))) = args := by
    rw [am_ix_range]
    conv => rhs; rw [← List.map_id args]
    exact List.map_congr_left (fun v _ => am_v_id v)
  refine am_callV (is := List.range n0) (n1 := 0) (s1 := 0) hd q1 q2 q3 q4 hcl hM (by rw [List.getElem?_append_left (List.getElem?_eq_some_iff.mp hb).1]; exact hb) (by rw [hmap]; exact ha) hAs hst0 (Nat.le_of_ble_eq_true hcat) (by have := am_sub_pre (F m) g; rw [hl] at this; exact this) (am_nd_range n0) (by rw [List.length_append, hl]; exact hb0) (by rw [List.length_range]; omega) (am_fr_some _ _ _ _ _ (hF m).2.2) ⟨Nat.zero_le _, Nat.zero_le _⟩ (by rw [hl]; exact hok) (fun v h1 hz hl1 => ?_)
  rw [am_tail, am_map_rn_range, am_put_pre g (by rw [hl1, hl]) hl]
  exact k v h1 hz
theorem am_preP {K : Int32 → Prop} (g : am_H) (e : h = F m ++ g) (hF : am_fam F n0) (hn0 : Nat.ble (n0 + g.length) 1000 = true) (hd : decode M.2.1 pc = .ok (.invokevirtual idx, 3)) (q : am_qV M idx M' n) (hcl : vwCl[ci]? = some (M'.1.cls, T, N)) (hM : am_Met M' args (F m) 0 0 (zP (F m) K)) (hb : (F m)[b]? = some (some (.inr (.inr (ci, fs))))) (ha : args = .ref b :: As) (hAs : As.length = n) (hst0 : As.reverse ++ .ref b :: st = st0) (hcat : Nat.ble (st.map fun v => v.category).sum 8 = true)
    (k : ∀ x, K x → am_Ok M sc Z nc ns (pc + 3) ls (.int x :: st) h) : am_Ok M sc Z nc ns pc ls st0 h := by
  subst e
  exact am_preV g hF hn0 hd q hcl hM hb ha hAs hst0 hcat (zP_ok hF) (by rintro v h1 ⟨x, rfl, rfl, hK⟩; exact k x hK)
theorem am_preQ {K : Nat → Prop} (g : am_H) (e : h = F m ++ g) (hF : am_fam F n0) (hn0 : Nat.ble (n0 + g.length) 1000 = true) (hd : decode M.2.1 pc = .ok (.invokevirtual idx, 3)) (q : am_qV M idx M' n) (hcl : vwCl[ci]? = some (M'.1.cls, T, N)) (hM : am_Met M' args (F m) 0 0 (zQ (F m) K)) (hb : (F m)[b]? = some (some (.inr (.inr (ci, fs))))) (ha : args = .ref b :: As) (hAs : As.length = n) (hst0 : As.reverse ++ .ref b :: st = st0) (hcat : Nat.ble (st.map fun v => v.category).sum 8 = true)
    (k : ∀ x, K x → am_Ok M sc Z nc ns (pc + 3) ls (.ref x :: st) h) : am_Ok M sc Z nc ns pc ls st0 h := by
  subst e
  exact am_preV g hF hn0 hd q hcl hM hb ha hAs hst0 hcat (zQ_ok hF) (by rintro v h1 ⟨x, rfl, rfl, -, hK⟩; exact k x hK)
theorem am_preI {K : Int32 → Mu → Prop} (g : am_H) (e : h = F m ++ g) (hF : am_fam F n0) (hn0 : Nat.ble (n0 + g.length) 1000 = true) (hd : decode M.2.1 pc = .ok (.invokevirtual idx, 3)) (q : am_qV M idx M' n) (hcl : vwCl[ci]? = some (M'.1.cls, T, N)) (hM : am_Met M' args (F m) 0 0 (zI F K)) (hb : (F m)[b]? = some (some (.inr (.inr (ci, fs))))) (ha : args = .ref b :: As) (hAs : As.length = n) (hst0 : As.reverse ++ .ref b :: st = st0) (hcat : Nat.ble (st.map fun v => v.category).sum 8 = true)
    (k : ∀ x m1, K x m1 → am_Ok M sc Z nc ns (pc + 3) ls (.int x :: st) (F m1 ++ g)) : am_Ok M sc Z nc ns pc ls st0 h := by
  subst e
  exact am_preV g hF hn0 hd q hcl hM hb ha hAs hst0 hcat (zI_ok hF) (by rintro v h1 ⟨x, m1, rfl, rfl, hK⟩; exact k x m1 hK)
theorem am_preU {K : Mu → Prop} (g : am_H) (e : h = F m ++ g) (hF : am_fam F n0) (hn0 : Nat.ble (n0 + g.length) 1000 = true) (hd : decode M.2.1 pc = .ok (.invokevirtual idx, 3)) (q : am_qV M idx M' n) (hcl : vwCl[ci]? = some (M'.1.cls, T, N)) (hM : am_Met M' args (F m) 0 0 (zV F K)) (hb : (F m)[b]? = some (some (.inr (.inr (ci, fs))))) (ha : args = .ref b :: As) (hAs : As.length = n) (hst0 : As.reverse ++ .ref b :: st = st0) (hcat : Nat.ble (st.map fun v => v.category).sum 8 = true)
    (k : ∀ m1, K m1 → am_Ok M sc Z nc ns (pc + 3) ls st (F m1 ++ g)) : am_Ok M sc Z nc ns pc ls st0 h := by
  subst e
  exact am_preV g hF hn0 hd q hcl hM hb ha hAs hst0 hcat (zV_ok hF) (by rintro v h1 ⟨m1, rfl, rfl, hK⟩; exact k m1 hK)
end AMW
/-- two parts of a memory as one -/
def mu_two (m : Mu) (b n c : Nat) : Mu := fun a => cond (Nat.blt a n) (m (b + a)) (m (c + (a - n)))
def mu_cat (m : Mu) (n : Nat) (k : Mu) : Mu := fun a => cond (Nat.blt a n) (m a) (k (a - n))
/-- the house's memory: turns made, yard, log, planner, slot 0, slot 1 -/
abbrev HM : Type := Int32 × Mu × Mu × Mu × Mu × Mu
def am_fill (n : Nat) (v : Int32) (f : Nat → Int32) : Nat → Int32 := fun j => if j < n then v else f j
/-- a constructor's end -/
def zN (h0 : am_H) : Option Value → am_H → Prop := fun v h => v = none ∧ h = h0
theorem zN_ok {F : Mu → am_H} {n0 : Nat} {m : Mu} {hc : am_H} (hF : am_fam F n0) (hl : hc.length = n0) : ∀ v h1, zN (F m) v h1 → am_okh hc.length h1 = true ∧ ∀ w, v = some w → am_okv hc.length w = true := by
  rintro v h1 ⟨rfl, rfl⟩
  rw [hl]
  exact ⟨(hF m).2.1, fun w hw => by cases hw⟩
theorem am_astore_nN' {M : am_M} {sc : Option (Nat × (Nat → Int32))} {Z : Option Value → am_H → Prop} {nc ns pc : Nat} {ls ls' : List (Option Value)} {st : List Value} {h : am_H} {i : Fin 4} (hd : decode M.2.1 pc = .ok (.astore_n i, 1)) (hi : Nat.blt i M.2.2.1 = true) (hls : ls.length = M.2.2.1) (hs : ls.set i (some .null) = ls') (k : am_Ok M sc Z nc ns (pc + 1) ls' st h) : am_Ok M sc Z nc ns pc ls (.null :: st) h := am_astore_nN hd (Nat.le_of_ble_eq_true hi) hls (by rw [hs]; exact k)
