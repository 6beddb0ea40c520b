/-! the rules as the printed walks use them -/
abbrev Mu : Type := Nat → Nat → Int32
def mu_set (m : Mu) (a : Nat) (f : Nat → Int32) : Mu := fun b => cond (Nat.beq b a) f (m b)
def mu_up (m : Mu) (a i : Nat) (x : Int32) : Mu := mu_set m a (upd (m a) i x)
def mu_sub (m : Mu) (o : Nat) : Mu := fun a => m (o + a)
def mu_put (m : Mu) (o n : Nat) (k : Mu) : Mu := fun a => cond (Nat.ble o a && Nat.blt a (o + n)) (k (a - o)) (m a)
def am_rem (x y : Int32) : Int32 := x - x / y * y
def am_ush (x y : Int32) : Int32 := (x.toUInt32 >>> (y.toUInt32 &&& Int32.toUInt32 31)).toInt32
def zI {β : Type} (F : β → am_H) (K : Int32 → β → Prop) : Option Value → am_H → Prop := fun v h => ∃ (x : Int32) (m : β), v = some (.int x) ∧ h = F m ∧ K x m
def zV {β : Type} (F : β → am_H) (K : β → Prop) : Option Value → am_H → Prop := fun v h => ∃ m : β, v = none ∧ h = F m ∧ K m
def zP (h0 : am_H) (K : Int32 → Prop) : Option Value → am_H → Prop := fun v h => ∃ x : Int32, v = some (.int x) ∧ h = h0 ∧ K x
/-- a reference of its own world comes back -/
def zQ (h0 : am_H) (K : Nat → Prop) : Option Value → am_H → Prop := fun v h => ∃ j : Nat, v = some (.ref j) ∧ h = h0 ∧ j < h0.length ∧ K j
theorem am_Met.of2 {M : am_M} {args : List Value} {h : am_H} {nc ns : Nat} {Z : Option Value → am_H → Prop} {ls : List (Option Value)} (hy : plainFor M.1 = true) (hh : Nat.ble h.length 1000 = true) (hc : (args.all fun v => Nat.beq v.category 1) = true) (hn : Nat.ble args.length M.2.2.1 = true) (hl : am_l0 M.2.2.1 args = ls) (k : am_Ok M none Z nc ns 0 ls [] h) : am_Met M args h nc ns Z :=
  am_Met.of hy (Nat.le_of_ble_eq_true hh) (fun v hv => Nat.eq_of_beq_eq_true (List.all_eq_true.mp hc v hv)) (Nat.le_of_ble_eq_true hn) (by rw [hl]; exact k)
section AMI
variable {M M' : am_M} {sc : Option (Nat × (Nat → Int32))} {Z Zc : Option Value → am_H → Prop} {nc ns n1 s1 pc : Nat} {ls ls' : List (Option Value)} {st st0 : List Value} {h hc : am_H} {is : List Nat}
theorem am_top {x : Int32} (k : ∀ y : Int32, y = x → am_Ok M sc Z nc ns pc ls (.int y :: st) h) : am_Ok M sc Z nc ns pc ls (.int x :: st) h := k x rfl
theorem am_hm {β : Type} {F : β → am_H} {m : β} (e : h = F m) (k : ∀ m' : β, m' = m → am_Ok M sc Z nc ns pc ls st (F m')) : am_Ok M sc Z nc ns pc ls st h := by rw [e]; exact k m rfl
theorem am_hp {h2 : am_H} (e : h = h2) (k : am_Ok M sc Z nc ns pc ls st h2) : am_Ok M sc Z nc ns pc ls st h := by rw [e]; exact k
theorem am_lp (e : ls = ls') (k : am_Ok M sc Z nc ns pc ls' st h) : am_Ok M sc Z nc ns pc ls st h := by rw [e]; exact k
/-- locals that are forgotten -/
def am_mk : List Bool → List (Option Value) → List (Option Value)
  | b :: bs, o :: os => cond b o none :: am_mk bs os
  | _, os => os
theorem am_mk_at : ∀ (bs : List Bool) (os : List (Option Value)) (k : Nat) (v : Value), (am_mk bs os)[k]? = some (some v) → os[k]? = some (some v)
  | [], _, _, _, h => h
  | _ :: _, [], _, _, h => h
  | b :: bs, o :: os, 0, v, h => by
    cases b with
    | true => exact h
    | false => cases h
  | b :: bs, o :: os, k + 1, v, h => am_mk_at bs os k v h
theorem am_forget (bs : List Bool) (e : am_mk bs ls = ls') (k : am_Ok M sc Z nc ns pc ls' st h) : am_Ok M sc Z nc ns pc ls st h := by
  intro p l e' R s m args below meth c Q D cy A r0 P0 N0 X hR r H locs cells slots lc hZ hS hL hE hN
  refine k p l e' R s m args below meth c Q D cy A r0 P0 N0 X hR r H locs cells slots lc hZ hS ?_ hE hN
  obtain ⟨lv, h1, h2⟩ := hL
  exact ⟨lv, h1, fun j v hj => h2 j v (am_mk_at bs ls j v (by rw [e]; exact hj))⟩
theorem am_irem' {x y : Int32} (hd : decode M.2.1 pc = .ok (.irem, 1)) (hy : ¬ y = 0) (k : am_Ok M sc Z nc ns (pc + 1) ls (.int (am_rem x y) :: st) h) : am_Ok M sc Z nc ns pc ls (.int y :: .int x :: st) h := am_irem hd hy k
theorem am_iushr' {x y : Int32} (hd : decode M.2.1 pc = .ok (.iushr, 1)) (k : am_Ok M sc Z nc ns (pc + 1) ls (.int (am_ush x y) :: st) h) : am_Ok M sc Z nc ns pc ls (.int y :: .int x :: st) h := am_iushr hd k
theorem am_istore_n' {i : Fin 4} {x : Int32} (hd : decode M.2.1 pc = .ok (.istore_n i, 1)) (hi : Nat.blt i M.2.2.1 = true) (hls : ls.length = M.2.2.1) (hs : ls.set i (some (.int x)) = ls') (k : am_Ok M sc Z nc ns (pc + 1) ls' st h) : am_Ok M sc Z nc ns pc ls (.int x :: st) h := am_istore_n hd (Nat.le_of_ble_eq_true hi) hls (by rw [hs]; exact k)
theorem am_istore' {i : Nat} {x : Int32} (hd : decode M.2.1 pc = .ok (.istore i, 2)) (hi : Nat.blt i M.2.2.1 = true) (hls : ls.length = M.2.2.1) (hs : ls.set i (some (.int x)) = ls') (k : am_Ok M sc Z nc ns (pc + 2) ls' st h) : am_Ok M sc Z nc ns pc ls (.int x :: st) h := am_istore hd (Nat.le_of_ble_eq_true hi) hls (by rw [hs]; exact k)
theorem am_astore_n' {i : Fin 4} {x : Nat} (hd : decode M.2.1 pc = .ok (.astore_n i, 1)) (hi : Nat.blt i M.2.2.1 = true) (hls : ls.length = M.2.2.1) (hs : ls.set i (some (.ref x)) = ls') (k : am_Ok M sc Z nc ns (pc + 1) ls' st h) : am_Ok M sc Z nc ns pc ls (.ref x :: st) h := am_astore_n hd (Nat.le_of_ble_eq_true hi) hls (by rw [hs]; exact k)
theorem am_astore' {i : Nat} {x : Nat} (hd : decode M.2.1 pc = .ok (.astore i, 2)) (hi : Nat.blt i M.2.2.1 = true) (hls : ls.length = M.2.2.1) (hs : ls.set i (some (.ref x)) = ls') (k : am_Ok M sc Z nc ns (pc + 2) ls' st h) : am_Ok M sc Z nc ns pc ls (.ref x :: st) h := am_astore hd (Nat.le_of_ble_eq_true hi) hls (by rw [hs]; exact k)
/-- iinc, the new number named -/
theorem am_iinc' {i : Nat} {n : Int} {x d : Int32} {lf : Int32 → List (Option Value)} (hd : decode M.2.1 pc = .ok (.iinc i n, 3)) (hi : Nat.blt i M.2.2.1 = true) (hls : ls.length = M.2.2.1) (hl : ls[i]? = some (some (.int x))) (hv : Int32.ofInt n = d) (hs : ∀ y, ls.set i (some (.int y)) = lf y) (k : ∀ y : Int32, y = x + d → am_Ok M sc Z nc ns (pc + 3) (lf y) st h) : am_Ok M sc Z nc ns pc ls st h :=
  am_iinc (v := x + d) hd (Nat.le_of_ble_eq_true hi) hls hl (by rw [hv]) (by rw [hs]; exact k _ rfl)
theorem am_putf' {β : Type} {F : β → am_H} {m : β} {idx q ci i : Nat} {fs : List Value} {x : Int32} (hd : decode M.2.1 pc = .ok (.putfield idx, 3)) (hf : am_fp M.1.cls idx ci i .int false) (hq : h[q]? = some (some (.inr (.inr (ci, fs))))) (hi : Nat.blt i fs.length = true) (e : h.set q (some (.inr (.inr (ci, fs.set i (.int x))))) = F m) (k : ∀ m' : β, m' = m → am_Ok M sc Z nc ns (pc + 3) ls st (F m')) : am_Ok M sc Z nc ns pc ls (.int x :: .ref q :: st) h :=
  am_putf hd hf (fun z => by cases z) (fun _ => ⟨rfl, rfl⟩) hq (Nat.le_of_ble_eq_true hi) (am_hm e k)
theorem am_iastore' {β : Type} {F : β → am_H} {m : β} {q n : Nat} {f : Nat → Int32} {i x : Int32} (hd : decode M.2.1 pc = .ok (.iastore, 1)) (hq : h[q]? = some (some (.inl (0, n, f)))) (hi : vp_in i n) (e : h.set q (some (.inl (0, n, upd f i.toNatClampNeg x))) = F m) (k : ∀ m' : β, m' = m → am_Ok M sc Z nc ns (pc + 1) ls st (F m')) : am_Ok M sc Z nc ns pc ls (.int x :: .int i :: .ref q :: st) h := am_iastore hd hq hi (am_hm e k)
theorem am_bastore' {β : Type} {F : β → am_H} {m : β} {q n : Nat} {f : Nat → Int32} {i x : Int32} (hd : decode M.2.1 pc = .ok (.bastore, 1)) (hq : h[q]? = some (some (.inl (1, n, f)))) (hi : vp_in i n) (e : h.set q (some (.inl (1, n, upd f i.toNatClampNeg (vp_nar .boolean x)))) = F m) (k : ∀ m' : β, m' = m → am_Ok M sc Z nc ns (pc + 1) ls st (F m')) : am_Ok M sc Z nc ns pc ls (.int x :: .int i :: .ref q :: st) h := am_bastore hd hq hi (am_hm e k)
-- the static facts of a call
def am_qV (M : am_M) (idx : Nat) (M' : am_M) (n : Nat) : Prop := am_cb M idx M' n ∧ Cond.methodLink M.1.cls idx M'.1 ∈ am_T ∧ Cond.instanceMethod M'.1 ∈ am_T ∧ Cond.selects M'.1.cls M'.1 M'.1 ∈ am_T
def am_qS (M : am_M) (idx : Nat) (M' : am_M) (n : Nat) : Prop := am_cb M idx M' n ∧ Cond.methodLink M.1.cls idx M'.1 ∈ am_T ∧ Cond.static M'.1 ∈ am_T
def am_qN (M : am_M) (idx : Nat) (M' : am_M) (n : Nat) : Prop := am_cb M idx M' n ∧ (∃ host, Cond.methodLinkNest M.1.cls idx M'.1 host ∈ am_N) ∧ Cond.static M'.1 ∈ am_T
def am_qI (M : am_M) (idx : Nat) (M' : am_M) (n : Nat) : Prop := am_cb M idx M' n ∧ Cond.methodLink M.1.cls idx M'.1 ∈ am_T ∧ Cond.instanceMethod M'.1 ∈ am_T
-- the same world
theorem am_ix_range (n : Nat) : am_ix (List.range n) = fun j => j := by
  funext j
  unfold am_ix
  rw [List.getD_eq_getElem?_getD]
  by_cases hj : j < n
  · rw [List.getElem?_range hj]; rfl
  · rw [List.getElem?_eq_none (by simpa using Nat.not_lt.mp hj)]; rfl
theorem am_v_id (v : Value) : am_v (fun j => j) v = v := by cases v <;> rfl
theorem am_rn_range (n : Nat) (c : am_C) : am_rn (List.range n) c = c := by
  rcases c with a | l | o
  · rfl
  · simp only [am_rn, am_ix_range]
    congr 2
    conv => rhs; rw [← List.map_id l]
    exact List.map_congr_left (fun o _ => by cases o <;> rfl)
  · simp only [am_rn, am_ix_range]
    congr 2
    conv => rhs; rw [← Prod.eta o, ← List.map_id o.2]
    congr 1
    exact List.map_congr_left (fun v _ => am_v_id v)
theorem am_map_rn_range (n : Nat) (os : am_H) : os.map (Option.map (am_rn (List.range n))) = os := by
  conv => rhs; rw [← List.map_id os]
  exact List.map_congr_left (fun o _ => by
    cases o with
    | none => rfl
    | some c => show some (am_rn (List.range n) c) = some c; rw [am_rn_range])
theorem am_sub_range (h : am_H) : (List.range h.length).map (fun i => h[i]?) = h.map (fun o => some (o.map (am_rn (List.range h.length)))) := by
  apply List.ext_getElem?
  intro i
  rw [List.getElem?_map, List.getElem?_map]
  by_cases hi : i < h.length
  · rw [List.getElem?_range hi, List.getElem?_eq_getElem hi]
    simp only [Option.map_some, List.getElem?_eq_getElem hi]
    congr 2
    cases h[i] with
    | none => rfl
    | some c => show some c = some (am_rn _ c); rw [am_rn_range]
  · rw [List.getElem?_eq_none (by simpa using Nat.not_lt.mp hi), List.getElem?_eq_none (Nat.not_lt.mp hi)]
    rfl
theorem am_nd_range : ∀ n, va_nd (List.range n) = true := by
  have key : ∀ (l : List Nat), l.Nodup → va_nd l = true := by
    intro l
    induction l with
    | nil => intro _; rfl
    | cons a l ih =>
      intro h
      have h1 := List.nodup_cons.mp h
      have h2 := ih h1.2
      simp [va_nd, h2, h1.1]
  exact fun n => key _ List.nodup_range
theorem am_put_range {n : Nat} {os h : am_H} (h1 : os.length = n) (h2 : h.length = n) : am_put (List.range n) os h = os := by
  apply List.ext_getElem?
  intro i
  by_cases hi : i < n
  · have ho : os[i]? = some os[i] := List.getElem?_eq_getElem (by omega)
    rw [ho]
    exact am_put_in (List.range n) os h (va_nd_inj _ (am_nd_range n)) i i _ (List.getElem?_range hi) ho (by omega)
  · rw [List.getElem?_eq_none (by rw [am_put_len]; omega), List.getElem?_eq_none (by omega)]
theorem am_fr_some : ∀ (is : List Nat) (hc h : am_H) (ls : List (Option Value)) (st : List Value), (hc.all fun o => o.isSome) = true → am_fr is hc h ls st = true
  | [], _, _, _, _, _ => by unfold am_fr; rfl
  | _ :: _, [], _, _, _, _ => by unfold am_fr; rfl
  | i :: is, none :: os, h, ls, st, hh => by simp at hh
  | i :: is, some c :: os, h, ls, st, hh => by
    have h2 : (os.all fun o => o.isSome) = true := by simpa using hh
    exact am_fr_some is os h ls st h2
/-- a family of worlds: full places, as many, references within -/
def am_fam (F : Mu → am_H) (n : Nat) : Prop := ∀ m, (F m).length = n ∧ am_okh n (F m) = true ∧ ((F m).all fun o => o.isSome) = true
theorem am_tail (v : Option Value) (st : List Value) (n : Nat) : (v.map (am_v (am_ix (List.range n)))).toList ++ st = v.toList ++ st := by
  rw [am_ix_range]
  cases v with
  | none => rfl
  | some w => show [am_v (fun j => j) w] ++ st = _; rw [am_v_id]; rfl
/-- a call on the same world (virtual) -/
theorem am_selfV {F : Mu → am_H} {n0 idx n ci : Nat} {fs args As : List Value} {T : u_T} {N : Nat} {m : Mu} {b : Nat} (hF : am_fam F n0) (hn0 : Nat.ble n0 1000 = true) (hd : decode M.2.1 pc = .ok (.invokevirtual idx, 3)) (q : am_qV M idx M' n) (hcl : vwCl[ci]? = some (M'.1.cls, T, N)) (hM : am_Met M' args (F m) 0 0 Zc) (hb : (F m)[b]? = some (some (.inr (.inr (ci, fs))))) (ha : args = .ref b :: As) (hAs : As.length = n) (hst0 : As.reverse ++ .ref b :: st = st0) (hcat : Nat.ble (st.map fun v => v.category).sum 8 = true)
    (hok : ∀ v h1, Zc v h1 → am_okh n0 h1 = true ∧ ∀ w, v = some w → am_okv n0 w = true)
    (k : ∀ v h1, Zc v h1 → am_Ok M sc Z nc ns (pc + 3) ls (v.toList ++ st) h1) : am_Ok M sc Z nc ns pc ls st0 (F m) := by
  obtain ⟨q1, q2, q3, q4⟩ := q
  have hl := (hF m).1
  have hb0 := Nat.le_of_ble_eq_true hn0
  have hmap : args.map (am_v (am_ix (List.range n0))) = args := by
    rw [am_ix_range]
    conv => rhs; rw [← List.map_id args]
    exact List.map_congr_left (fun v _ => am_v_id v)
  refine am_callV (is := List.range n0) (n1 := 0) (s1 := 0) hd q1 q2 q3 q4 hcl hM hb (by rw [hmap]; exact ha) hAs hst0 (Nat.le_of_ble_eq_true hcat) (by have := am_sub_range (F m); rw [hl] at this; exact this) (am_nd_range n0) (by rw [hl]; exact hb0) (by rw [List.length_range]; exact hb0) (am_fr_some _ _ _ _ _ (hF m).2.2) ⟨Nat.zero_le _, Nat.zero_le _⟩ (by rw [hl]; exact hok) (fun v h1 hz hl1 => ?_)
  rw [am_tail, am_map_rn_range, am_put_range (by rw [hl1, hl]) hl]
  exact k v h1 hz
/-- a call on a part of the world (virtual) -/
theorem am_partV {F : Mu → am_H} {n0 idx n ci b : Nat} {fs args' As : List Value} {T : u_T} {N : Nat} {m : Mu} (is : List Nat) (hF : am_fam F n0) (hd : decode M.2.1 pc = .ok (.invokevirtual idx, 3)) (q : am_qV M idx M' n) (hcl : vwCl[ci]? = some (M'.1.cls, T, N)) (hM : am_Met M' args' (F m) 0 0 Zc) (hb : h[b]? = some (some (.inr (.inr (ci, fs))))) (ha : args'.map (am_v (am_ix is)) = .ref b :: As) (hAs : As.length = n) (hst0 : As.reverse ++ .ref b :: st = st0) (hcat : Nat.ble (st.map fun v => v.category).sum 8 = true)
    (hsub : is.map (fun i => h[i]?) = (F m).map (fun o => some (o.map (am_rn is)))) (hnd : va_nd is = true) (hlen : Nat.ble h.length 1000 = true) (hil : Nat.ble is.length 1000 = true)
    (hok : ∀ v h1, Zc v h1 → am_okh n0 h1 = true ∧ ∀ w, v = some w → am_okv n0 w = true)
    (k : ∀ v h1, Zc v h1 → am_Ok M sc Z nc ns (pc + 3) ls ((v.map (am_v (am_ix is))).toList ++ st) (am_put is (h1.map (Option.map (am_rn is))) h)) : am_Ok M sc Z nc ns pc ls st0 h := by
  obtain ⟨q1, q2, q3, q4⟩ := q
  exact am_callV (is := is) (n1 := 0) (s1 := 0) hd q1 q2 q3 q4 hcl hM hb ha hAs hst0 (Nat.le_of_ble_eq_true hcat) hsub hnd (Nat.le_of_ble_eq_true hlen) (Nat.le_of_ble_eq_true hil) (am_fr_some _ _ _ _ _ (hF m).2.2) ⟨Nat.zero_le _, Nat.zero_le _⟩ (by rw [(hF m).1]; exact hok) (fun v h1 hz hl1 => k v h1 hz)
/-- a static call without a world -/
theorem am_stS {idx n : Nat} {As : List Value} {K : Int32 → Prop} (hd : decode M.2.1 pc = .ok (.invokestatic idx, 3)) (q : am_qS M idx M' n ∨ am_qN M idx M' n) (hM : am_Met M' As [] 0 0 (zP [] K)) (hAs : As.length = n) (hst0 : As.reverse ++ st = st0) (hcat : Nat.ble (st.map fun v => v.category).sum 8 = true) (hlen : Nat.ble h.length 1000 = true)
    (k : ∀ x : Int32, K x → am_Ok M sc Z nc ns (pc + 3) ls (.int x :: st) h) : am_Ok M sc Z nc ns pc ls st0 h := by
  have hmap : As.map (am_v (am_ix [])) = As := by
    conv => rhs; rw [← List.map_id As]
    exact List.map_congr_left (fun v _ => by
      show am_v (am_ix []) v = v
      rw [show am_ix [] = fun j => j from funext fun j => rfl, am_v_id])
  have hok : ∀ v h1, zP [] K v h1 → am_okh ([] : am_H).length h1 = true ∧ ∀ w, v = some w → am_okv ([] : am_H).length w = true := by
    rintro v h1 ⟨x, rfl, rfl, -⟩
    exact ⟨rfl, fun w hw => by cases hw; rfl⟩
  have k2 : ∀ v h1, zP [] K v h1 → h1.length = ([] : am_H).length → am_Ok M sc Z (nc - 0) (ns - 0) (pc + 3) ls ((v.map (am_v (am_ix []))).toList ++ st) (am_put [] (h1.map (Option.map (am_rn []))) h) := by
    rintro v h1 ⟨x, rfl, rfl, hK⟩ -
    exact k x hK
  rcases q with ⟨q1, q2, q3⟩ | ⟨q1, ⟨host, q2⟩, q3⟩
  · exact am_callS (is := []) (hc := []) (n1 := 0) (s1 := 0) hd q1 q2 q3 hM hmap hAs hst0 (Nat.le_of_ble_eq_true hcat) rfl rfl (Nat.le_of_ble_eq_true hlen) (Nat.zero_le _) (by unfold am_fr; rfl) ⟨Nat.zero_le _, Nat.zero_le _⟩ hok k2
  · exact am_callSN (is := []) (hc := []) (n1 := 0) (s1 := 0) hd q1 q2 q3 hM hmap hAs hst0 (Nat.le_of_ble_eq_true hcat) rfl rfl (Nat.le_of_ble_eq_true hlen) (Nat.zero_le _) (by unfold am_fr; rfl) ⟨Nat.zero_le _, Nat.zero_le _⟩ hok k2
-- what the answers' forms give
theorem zI_ok {F : Mu → am_H} {n0 : Nat} {K : Int32 → Mu → Prop} (hF : am_fam F n0) : ∀ v h1, zI F K v h1 → am_okh n0 h1 = true ∧ ∀ w, v = some w → am_okv n0 w = true := by
  rintro v h1 ⟨x, m, rfl, rfl, -⟩
  exact ⟨(hF m).2.1, fun w hw => by cases hw; rfl⟩
theorem zV_ok {F : Mu → am_H} {n0 : Nat} {K : Mu → Prop} (hF : am_fam F n0) : ∀ v h1, zV F K v h1 → am_okh n0 h1 = true ∧ ∀ w, v = some w → am_okv n0 w = true := by
  rintro v h1 ⟨m, rfl, rfl, -⟩
  exact ⟨(hF m).2.1, fun w hw => by cases hw⟩
theorem zP_ok {F : Mu → am_H} {n0 : Nat} {m : Mu} {K : Int32 → Prop} (hF : am_fam F n0) : ∀ v h1, zP (F m) K v h1 → am_okh n0 h1 = true ∧ ∀ w, v = some w → am_okv n0 w = true := by
  rintro v h1 ⟨x, rfl, rfl, -⟩
  exact ⟨(hF m).2.1, fun w hw => by cases hw; rfl⟩
theorem zQ_ok {F : Mu → am_H} {n0 : Nat} {m : Mu} {K : Nat → Prop} (hF : am_fam F n0) : ∀ v h1, zQ (F m) K v h1 → am_okh n0 h1 = true ∧ ∀ w, v = some w → am_okv n0 w = true := by
  rintro v h1 ⟨j, rfl, rfl, hj, -⟩
  refine ⟨(hF m).2.1, fun w hw => ?_⟩
  cases hw
  rw [(hF m).1] at hj
  simp [am_okv, Nat.blt_eq, hj]
end AMI
