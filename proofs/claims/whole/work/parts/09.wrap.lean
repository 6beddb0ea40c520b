theorem am_sub_r (ws : List Cond) (ps : List Nat) (hp : ws = ps.filterMap (fun i => lw_tbl[i]?)) (hg : ws.all goodWord = true) : ∀ w ∈ ws, w ∈ am_T := by
  intro w hw
  have h1 := List.all_eq_true.mp hg w hw
  rw [hp] at hw
  obtain ⟨i, -, hi⟩ := List.mem_filterMap.mp hw
  exact am_T_in i hi h1
section AMW
variable {M M' : am_M} {sc : Option (Nat × (Nat → Int32))} {Z : Option Value → am_H → Prop} {nc ns pc : Nat} {ls : List (Option Value)} {st st0 : List Value} {h : am_H} {F : Mu → am_H} {n0 idx n ci b : Nat} {fs args As : List Value} {T : u_T} {N : Nat} {m : Mu}
theorem am_selfP {K : Int32 → Prop} (hF : am_fam F n0) (hn0 : Nat.ble n0 1000 = true) (hd : decode M.2.1 pc = .ok (.invokevirtual idx, 3)) (q : am_qV M idx M' n) (hcl : vwCl[ci]? = some (M'.1.cls, T, N)) (hM : am_Met M' args (F m) 0 0 (zP (F m) K)) (hb : (F m)[b]? = some (some (.inr (.inr (ci, fs))))) (ha : args = .ref b :: As) (hAs : As.length = n) (hst0 : As.reverse ++ .ref b :: st = st0) (hcat : Nat.ble (st.map fun v => v.category).sum 8 = true)
    (k : ∀ x, K x → am_Ok M sc Z nc ns (pc + 3) ls (.int x :: st) (F m)) : am_Ok M sc Z nc ns pc ls st0 (F m) :=
  am_selfV hF hn0 hd q hcl hM hb ha hAs hst0 hcat (zP_ok hF) (by rintro v h1 ⟨x, rfl, rfl, hK⟩; exact k x hK)
theorem am_selfQ {K : Nat → Prop} (hF : am_fam F n0) (hn0 : Nat.ble n0 1000 = true) (hd : decode M.2.1 pc = .ok (.invokevirtual idx, 3)) (q : am_qV M idx M' n) (hcl : vwCl[ci]? = some (M'.1.cls, T, N)) (hM : am_Met M' args (F m) 0 0 (zQ (F m) K)) (hb : (F m)[b]? = some (some (.inr (.inr (ci, fs))))) (ha : args = .ref b :: As) (hAs : As.length = n) (hst0 : As.reverse ++ .ref b :: st = st0) (hcat : Nat.ble (st.map fun v => v.category).sum 8 = true)
    (k : ∀ x, K x → am_Ok M sc Z nc ns (pc + 3) ls (.ref x :: st) (F m)) : am_Ok M sc Z nc ns pc ls st0 (F m) :=
  am_selfV hF hn0 hd q hcl hM hb ha hAs hst0 hcat (zQ_ok hF) (by rintro v h1 ⟨x, rfl, rfl, -, hK⟩; exact k x hK)
theorem am_selfI {K : Int32 → Mu → Prop} (hF : am_fam F n0) (hn0 : Nat.ble n0 1000 = true) (hd : decode M.2.1 pc = .ok (.invokevirtual idx, 3)) (q : am_qV M idx M' n) (hcl : vwCl[ci]? = some (M'.1.cls, T, N)) (hM : am_Met M' args (F m) 0 0 (zI F K)) (hb : (F m)[b]? = some (some (.inr (.inr (ci, fs))))) (ha : args = .ref b :: As) (hAs : As.length = n) (hst0 : As.reverse ++ .ref b :: st = st0) (hcat : Nat.ble (st.map fun v => v.category).sum 8 = true)
    (k : ∀ x m1, K x m1 → am_Ok M sc Z nc ns (pc + 3) ls (.int x :: st) (F m1)) : am_Ok M sc Z nc ns pc ls st0 (F m) :=
  am_selfV hF hn0 hd q hcl hM hb ha hAs hst0 hcat (zI_ok hF) (by rintro v h1 ⟨x, m1, rfl, rfl, hK⟩; exact k x m1 hK)
theorem am_selfU {K : Mu → Prop} (hF : am_fam F n0) (hn0 : Nat.ble n0 1000 = true) (hd : decode M.2.1 pc = .ok (.invokevirtual idx, 3)) (q : am_qV M idx M' n) (hcl : vwCl[ci]? = some (M'.1.cls, T, N)) (hM : am_Met M' args (F m) 0 0 (zV F K)) (hb : (F m)[b]? = some (some (.inr (.inr (ci, fs))))) (ha : args = .ref b :: As) (hAs : As.length = n) (hst0 : As.reverse ++ .ref b :: st = st0) (hcat : Nat.ble (st.map fun v => v.category).sum 8 = true)
    (k : ∀ m1, K m1 → am_Ok M sc Z nc ns (pc + 3) ls st (F m1)) : am_Ok M sc Z nc ns pc ls st0 (F m) :=
  am_selfV hF hn0 hd q hcl hM hb ha hAs hst0 hcat (zV_ok hF) (by rintro v h1 ⟨m1, rfl, rfl, hK⟩; exact k m1 hK)
theorem am_partP {K : Int32 → Prop} {args' : List Value} (is : List Nat) (hF : am_fam F n0) (hd : decode M.2.1 pc = .ok (.invokevirtual idx, 3)) (q : am_qV M idx M' n) (hcl : vwCl[ci]? = some (M'.1.cls, T, N)) (hM : am_Met M' args' (F m) 0 0 (zP (F m) K)) (hb : h[b]? = some (some (.inr (.inr (ci, fs))))) (ha : args'.map (am_v (am_ix is)) = .ref b :: As) (hAs : As.length = n) (hst0 : As.reverse ++ .ref b :: st = st0) (hcat : Nat.ble (st.map fun v => v.category).sum 8 = true)
    (hsub : is.map (fun i => h[i]?) = (F m).map (fun o => some (o.map (am_rn is)))) (hnd : va_nd is = true) (hlen : Nat.ble h.length 1000 = true) (hil : Nat.ble is.length 1000 = true) (hput : am_put is ((F m).map (Option.map (am_rn is))) h = h)
    (k : ∀ x, K x → am_Ok M sc Z nc ns (pc + 3) ls (.int x :: st) h) : am_Ok M sc Z nc ns pc ls st0 h :=
  am_partV is hF hd q hcl hM hb ha hAs hst0 hcat hsub hnd hlen hil (zP_ok hF) (by rintro v h1 ⟨x, rfl, rfl, hK⟩; rw [hput]; exact k x hK)
theorem am_partI {K : Int32 → Mu → Prop} {args' : List Value} (is : List Nat) (hF : am_fam F n0) (hd : decode M.2.1 pc = .ok (.invokevirtual idx, 3)) (q : am_qV M idx M' n) (hcl : vwCl[ci]? = some (M'.1.cls, T, N)) (hM : am_Met M' args' (F m) 0 0 (zI F K)) (hb : h[b]? = some (some (.inr (.inr (ci, fs))))) (ha : args'.map (am_v (am_ix is)) = .ref b :: As) (hAs : As.length = n) (hst0 : As.reverse ++ .ref b :: st = st0) (hcat : Nat.ble (st.map fun v => v.category).sum 8 = true)
    (hsub : is.map (fun i => h[i]?) = (F m).map (fun o => some (o.map (am_rn is)))) (hnd : va_nd is = true) (hlen : Nat.ble h.length 1000 = true) (hil : Nat.ble is.length 1000 = true)
    (k : ∀ x m1, K x m1 → am_Ok M sc Z nc ns (pc + 3) ls (.int x :: st) (am_put is ((F m1).map (Option.map (am_rn is))) h)) : am_Ok M sc Z nc ns pc ls st0 h :=
  am_partV is hF hd q hcl hM hb ha hAs hst0 hcat hsub hnd hlen hil (zI_ok hF) (by rintro v h1 ⟨x, m1, rfl, rfl, hK⟩; exact k x m1 hK)
theorem am_partU {K : Mu → Prop} {args' : List Value} (is : List Nat) (hF : am_fam F n0) (hd : decode M.2.1 pc = .ok (.invokevirtual idx, 3)) (q : am_qV M idx M' n) (hcl : vwCl[ci]? = some (M'.1.cls, T, N)) (hM : am_Met M' args' (F m) 0 0 (zV F K)) (hb : h[b]? = some (some (.inr (.inr (ci, fs))))) (ha : args'.map (am_v (am_ix is)) = .ref b :: As) (hAs : As.length = n) (hst0 : As.reverse ++ .ref b :: st = st0) (hcat : Nat.ble (st.map fun v => v.category).sum 8 = true)
    (hsub : is.map (fun i => h[i]?) = (F m).map (fun o => some (o.map (am_rn is)))) (hnd : va_nd is = true) (hlen : Nat.ble h.length 1000 = true) (hil : Nat.ble is.length 1000 = true)
    (k : ∀ m1, K m1 → am_Ok M sc Z nc ns (pc + 3) ls st (am_put is ((F m1).map (Option.map (am_rn is))) h)) : am_Ok M sc Z nc ns pc ls st0 h :=
  am_partV is hF hd q hcl hM hb ha hAs hst0 hcat hsub hnd hlen hil (zV_ok hF) (by rintro v h1 ⟨m1, rfl, rfl, hK⟩; exact k m1 hK)
end AMW
def am_fill (n : Nat) (v : Int32) (f : Nat → Int32) : Nat → Int32 := fun j => if j < n then v else f j
