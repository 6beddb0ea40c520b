/-! rules that read and write cells, and make them -/
/-- a class of the tables -/
def am_cls (ci : Nat) (C : String) (T : u_T) (N : Nat) (ty : Nat → FieldType) : Prop := vwCl[ci]? = some (C, T, N) ∧ (∀ w ∈ u_ws C T N, w ∈ am_T) ∧ (∀ k, k < N → parseFieldDescriptor (T k).2.2.1 = some (ty k)) ∧ (∀ a, a < N → ∀ b, b < N → a ≠ b → (T a).2.1 ≠ (T b).2.1)
/-- a field's link: index in the class's pool, class number, slot -/
def am_fl (own : String) (idx ci k : Nat) : Prop := ∃ (C : String) (T : u_T) (N : Nat) (ty : Nat → FieldType), am_cls ci C T N ty ∧ k < N ∧ (T k).1 = C ∧ (Cond.fieldLink own idx C (T k).2.1 (T k).2.2.1 ∈ am_T ∨ ∃ host, Cond.fieldLinkNest own idx C (T k).2.1 (T k).2.2.1 host ∈ am_N)
/-- .. to be written: type, final -/
def am_fp (own : String) (idx ci k : Nat) (ft : FieldType) (fin : Bool) : Prop := ∃ (C : String) (T : u_T) (N : Nat) (ty : Nat → FieldType), am_cls ci C T N ty ∧ k < N ∧ (T k).1 = C ∧ ty k = ft ∧ (T k).2.2.2 = fin ∧ ((Cond.fieldLink own idx C (T k).2.1 (T k).2.2.1 ∈ am_T ∧ (fin = true → C = own)) ∨ (fin = false ∧ ∃ host, Cond.fieldLinkNest own idx C (T k).2.1 (T k).2.2.1 host ∈ am_N))
section AMH
variable {M : am_M} {sc : Option (Nat × (Nat → Int32))} {Z : Option Value → am_H → Prop} {nc ns pc : Nat} {ls : List (Option Value)} {st st' : List Value} {h : am_H}
/-- a step that reads the heap -/
theorem am_read {pc' : Nat} (w : ∀ {p : Program} {l : Launch} {e : Env} {R : Room} {s : State} {m : MethodId} {args : Array Value} {below : List Frame} {meth : Method} {c : Code} {Q : State → Prop} {H : Heap} {locs : List Loc} {cells slots : Nat} {lc : Array Slot} {D : va_G} {cy : Nat → ClassId} (r : Nat → Nat) (ws : va_W), p.tables.exec = Jvm.exec → c.code = M.2.1 → s.vm.findClass M.1.cls = some m.cls → (∀ w ∈ am_T, w.before args s = true) → am_K D cy s → va_P D vwCl ws H → (∀ (k : Nat) (c : am_C), h[k]? = some (some c) → ∃ q : Nat, ws[q]? = some (r k, am_e cy r c)) →
    W p l e R s m args below meth c H locs cells slots Q (F0 m pc' lc (st'.map (am_v r))) → W p l e R s m args below meth c H locs cells slots Q (F0 m pc lc (st.map (am_v r)))) (k : am_Ok M sc Z nc ns pc' ls st' h) : am_Ok M sc Z nc ns pc ls st h := by
  intro p l e R s m args below meth c Q D cy A r0 P0 N0 X hR r H locs cells slots lc hZ hS hL hE hN
  obtain ⟨ws, hP, hD, cov⟩ := hZ.toW
  exact w r ws X.1 X.2.1 X.2.2.2.1 X.2.2.2.2.1 X.2.2.2.2.2.1 hP cov (k p l e R s m args below meth c Q D cy A r0 P0 N0 X hR r H locs cells slots lc hZ hS hL hE hN)
theorem am_getf {idx q ci i : Nat} {fs : List Value} {v : Value} (hd : decode M.2.1 pc = .ok (.getfield idx, 3)) (hf : am_fl M.1.cls idx ci i) (hq : h[q]? = some (some (.inr (.inr (ci, fs))))) (hv : fs[i]? = some v) (k : am_Ok M sc Z nc ns (pc + 3) ls (v :: st) h) : am_Ok M sc Z nc ns pc ls (.ref q :: st) h := by
  obtain ⟨C, T, N, ty, ⟨h1, h2, h3, h4⟩, h5, h6, h7⟩ := hf
  refine am_read (fun {p l e R s m args below meth c Q H locs cells slots lc D cy} r ws hx hb ho ht hK hP cov w => ?_) k
  obtain ⟨q0, hq0⟩ := cov q _ hq
  have hv' : (fs.map (am_v r))[i]? = some (am_v r v) := by rw [List.getElem?_map, hv]; rfl
  rcases h7 with h7 | ⟨host, h7⟩
  · exact va_get hx hb ht h2 ho hK.1 hP q0 hq0 h1 i h5 (ht _ h7) (fun x hx => by rw [h6] at hx; exact hx) hv' hd w
  · exact va_getN hx hb ht h2 ho hK.1 hP q0 hq0 h1 i h5 (va_Nw.use rfl (hK.2.1 _ h7)) (fun x hx => by rw [h6] at hx; exact hx) hv' hd w
theorem am_iaload {q n : Nat} {f : Nat → Int32} {i : Int32} (hd : decode M.2.1 pc = .ok (.iaload, 1)) (hq : h[q]? = some (some (.inl (0, n, f)))) (hi : vp_in i n) (k : am_Ok M sc Z nc ns (pc + 1) ls (.int (f i.toNatClampNeg) :: st) h) : am_Ok M sc Z nc ns pc ls (.int i :: .ref q :: st) h := by
  refine am_read (fun {p l e R s m args below meth c Q H locs cells slots lc D cy} r ws hx hb ho ht hK hP cov w => ?_) k
  obtain ⟨q0, hq0⟩ := cov q _ hq
  exact va_iald hx hb hK.1 hP q0 0 hq0 rfl hi hd w
theorem am_baload {q n : Nat} {f : Nat → Int32} {i : Int32} (hd : decode M.2.1 pc = .ok (.baload, 1)) (hq : h[q]? = some (some (.inl (1, n, f)))) (hi : vp_in i n) (k : am_Ok M sc Z nc ns (pc + 1) ls (.int (f i.toNatClampNeg) :: st) h) : am_Ok M sc Z nc ns pc ls (.int i :: .ref q :: st) h := by
  refine am_read (fun {p l e R s m args below meth c Q H locs cells slots lc D cy} r ws hx hb ho ht hK hP cov w => ?_) k
  obtain ⟨q0, hq0⟩ := cov q _ hq
  exact va_zald hx hb hK.1 hP q0 1 hq0 rfl hi hd w
theorem am_alen {q n t : Nat} {f : Nat → Int32} {v : Int32} (hd : decode M.2.1 pc = .ok (.arraylength, 1)) (hq : h[q]? = some (some (.inl (0, n, f)))) (hv : Int32.ofNat n = v) (k : am_Ok M sc Z nc ns (pc + 1) ls (.int v :: st) h) : am_Ok M sc Z nc ns pc ls (.ref q :: st) h := by
  refine am_read (fun {p l e R s m args below meth c Q H locs cells slots lc D cy} r ws hx hb ho ht hK hP cov w => ?_) k
  obtain ⟨q0, hq0⟩ := cov q _ hq
  exact va_alen hx hb hK.1 hP q0 0 hq0 rfl hv hd w
def am_rf (o : Option Nat) : Value := match o with
  | none => .null
  | some i => .ref i
theorem am_aaload {q : Nat} {l : List (Option Nat)} {i : Int32} {o : Option Nat} (hd : decode M.2.1 pc = .ok (.aaload, 1)) (hq : h[q]? = some (some (.inr (.inl l)))) (hi : vp_in i l.length) (ho : l.getD i.toNatClampNeg none = o) (k : am_Ok M sc Z nc ns (pc + 1) ls (am_rf o :: st) h) : am_Ok M sc Z nc ns pc ls (.int i :: .ref q :: st) h := by
  refine am_read (fun {p l' e R s m args below meth c Q H locs cells slots lc D cy} r ws hx hb ho' ht hK hP cov w => ?_) k
  obtain ⟨q0, hq0⟩ := cov q _ hq
  refine va_aldq hx hb hK.1 hP q0 2 hq0 rfl hi hd ?_
  subst ho
  have e : va_rf ((l.getD i.toNatClampNeg none).map r) = am_v r (am_rf (l.getD i.toNatClampNeg none)) := by
    cases l.getD i.toNatClampNeg none <;> rfl
  exact W.eq (congrArg (fun z => F0 m (pc + 1) lc (z :: st.map (am_v r))) e) w
/-- the script -/
theorem am_sld {L : Nat} {xs : Nat → Int32} {i : Int32} (hs : sc = some (L, xs)) (hd : decode M.2.1 pc = .ok (.iaload, 1)) (hi : vp_in i L) (k : am_Ok M sc Z nc ns (pc + 1) ls (.int (xs i.toNatClampNeg) :: st) h) : am_Ok M sc Z nc ns pc ls (.int i :: .ref 1000 :: st) h := by
  subst hs
  intro p l e R s m args below meth c Q D cy A r0 P0 N0 X hR r H locs cells slots lc hZ hS hL hE hN
  obtain ⟨x1, x2, x3, x4⟩ := X.2.2.2.2.2.2.2.2.2.2
  have er : r 1000 = r0 1000 := hE.1 1000 x1
  have w := k p l e R s m args below meth c Q D cy A r0 P0 N0 X hR r H locs cells slots lc hZ hS hL hE hN
  show W p l e R s m args below meth c H locs cells slots Q (F0 m pc lc (.int i :: .ref (r 1000) :: st.map (am_v r)))
  rw [er]
  exact va_sld X.1 X.2.1 x2 x3 x4 hS hi hd w
theorem am_slen {L : Nat} {xs : Nat → Int32} (hs : sc = some (L, xs)) (hd : decode M.2.1 pc = .ok (.arraylength, 1)) (k : am_Ok M sc Z nc ns (pc + 1) ls (.int (Int32.ofNat L) :: st) h) : am_Ok M sc Z nc ns pc ls (.ref 1000 :: st) h := by
  subst hs
  intro p l e R s m args below meth c Q D cy A r0 P0 N0 X hR r H locs cells slots lc hZ hS hL hE hN
  obtain ⟨x1, x2, x3, x4⟩ := X.2.2.2.2.2.2.2.2.2.2
  have er : r 1000 = r0 1000 := hE.1 1000 x1
  have w := k p l e R s m args below meth c Q D cy A r0 P0 N0 X hR r H locs cells slots lc hZ hS hL hE hN
  show W p l e R s m args below meth c H locs cells slots Q (F0 m pc lc (.ref (r 1000) :: st.map (am_v r)))
  rw [er]
  exact va_slen X.1 X.2.1 x2 x3 x4 hS hd w
/-- a step that writes one cell -/
theorem am_write {pc' q : Nat} {c0 c1 : am_C} (hq : h[q]? = some (some c0)) (w : ∀ {p : Program} {l : Launch} {e : Env} {R : Room} {s : State} {m : MethodId} {args : Array Value} {below : List Frame} {meth : Method} {c : Code} {Q : State → Prop} {H : Heap} {locs : List Loc} {cells slots : Nat} {lc : Array Slot} {D : va_G} {cy : Nat → ClassId} {A : Nat → Prop} (r : Nat → Nat) (ws : va_W) (q0 : Nat), p.tables.exec = Jvm.exec → c.code = M.2.1 → c.maxLocals = M.2.2.1 → lc.size = M.2.2.1 → s.vm.findClass M.1.cls = some m.cls → (∀ w ∈ am_T, w.before args s = true) → am_K D cy s → (M.1.name = "<init>" → meth.name = "<init>") → R.frames = M.2.2.2.2.1 → R.locals = M.2.2.2.2.2 → va_P D vwCl ws H → va_D A ws → va_S A s.heap H locs → (∀ (k : Nat) (c : am_C), h[k]? = some (some c) → ∃ q : Nat, ws[q]? = some (r k, am_e cy r c)) → ws[q0]? = some (r q, am_e cy r c0) →
    (∀ (H1 : Heap) (locs1 : List Loc), va_P D vwCl (ws.set q0 (r q, am_e cy r c1)) H1 → va_D A (ws.set q0 (r q, am_e cy r c1)) → va_S A s.heap H1 locs1 → W p l e R s m args below meth c H1 locs1 cells slots Q (F0 m pc' lc (st'.map (am_v r)))) → W p l e R s m args below meth c H locs cells slots Q (F0 m pc lc (st.map (am_v r)))) (k : am_Ok M sc Z nc ns pc' ls st' (h.set q (some c1))) : am_Ok M sc Z nc ns pc ls st h := by
  intro p l e R s m args below meth c Q D cy A r0 P0 N0 X hR r H locs cells slots lc hZ hS hL hE hN
  obtain ⟨ws, hP, hD, cov⟩ := hZ.toW
  obtain ⟨q0, hq0⟩ := cov q _ hq
  obtain ⟨lv, hlv, -⟩ := id hL
  refine w r ws q0 X.1 X.2.1 X.2.2.1 hlv.1 X.2.2.2.1 X.2.2.2.2.1 X.2.2.2.2.2.1 X.2.2.2.2.2.2.2.2.2.1 X.2.2.2.2.2.2.2.1 X.2.2.2.2.2.2.2.2.1 hP hD hS cov hq0 (fun H1 locs1 hP1 hD1 hS1 => ?_)
  refine k p l e R s m args below meth c Q D cy A r0 P0 N0 X hR r H1 locs1 cells slots lc (hZ.set hq cov hq0 hP1) hS1 hL ⟨hE.1, fun i hi => ?_, by rw [List.length_set]; exact hE.2.2⟩ hN
  by_cases ei : i = q
  · subst ei; rw [am_set_eq hq]; exact fun z => by cases z
  · rw [am_set_ne ei]; exact hE.2.1 i hi
theorem am_putf {idx q ci i : Nat} {fs : List Value} {v : Value} {ft : FieldType} {fin : Bool} (hd : decode M.2.1 pc = .ok (.putfield idx, 3)) (hf : am_fp M.1.cls idx ci i ft fin) (hfin : fin = true → M.1.name = "<init>") (hv : ∀ r, narrow ft (am_v r v) = am_v r v ∧ fits ft (am_v r v) = true) (hq : h[q]? = some (some (.inr (.inr (ci, fs))))) (hi : i < fs.length) (k : am_Ok M sc Z nc ns (pc + 3) ls st (h.set q (some (.inr (.inr (ci, fs.set i v)))))) : am_Ok M sc Z nc ns pc ls (v :: .ref q :: st) h := by
  obtain ⟨C, T, N, ty, ⟨h1, h2, h3, h4⟩, h5, h6, h7, h8, h9⟩ := hf
  refine am_write hq (fun {p l e R s m args below meth c Q H locs cells slots lc D cy A} r ws q0 hx hb hml hlc ho ht hK hin hfr hlo hP hD hS cov hq0 w => ?_) k
  have hd3 : parseFieldDescriptor (T i).2.2.1 = some ft := by rw [h3 i h5, h7]
  have e : am_e cy r (.inr (.inr (ci, fs.set i v))) = .inr (ci, (fs.map (am_v r)).set i (am_v r v)) := by simp only [am_e]; rw [List.map_set]
  rw [e] at w
  have hl : i < (fs.map (am_v r)).length := by rw [List.length_map]; exact hi
  rcases h9 with ⟨h9, h10⟩ | ⟨h10, host, h9⟩
  · cases fin with
    | false => exact va_put hx hb ht h2 ty h3 h4 ho hK.1 hP hD hS q0 hq0 h1 i h5 (ht _ h9) (fun x hx => by rw [h6] at hx; exact hx) h8 hd3 (hv r).1 (hv r).2 hl hd w
    | true => exact va_putF hx hb ht h2 ty h3 h4 ho hK.1 hP hD hS q0 hq0 h1 i h5 (ht _ h9) (fun x hx => by rw [h6] at hx; exact hx) h8 (hin (hfin rfl)) (by rw [h6]; exact h10 rfl) hd3 (hv r).1 (hv r).2 hl hd w
  · subst h10
    exact va_putN hx hb ht h2 ty h3 h4 ho hK.1 hP hD hS q0 hq0 h1 i h5 (va_Nw.use rfl (hK.2.1 _ h9)) (fun x hx => by rw [h6] at hx; exact hx) h8 hd3 (hv r).1 (hv r).2 hl hd w
theorem am_iastore {q n : Nat} {f : Nat → Int32} {i x : Int32} (hd : decode M.2.1 pc = .ok (.iastore, 1)) (hq : h[q]? = some (some (.inl (0, n, f)))) (hi : vp_in i n) (k : am_Ok M sc Z nc ns (pc + 1) ls st (h.set q (some (.inl (0, n, upd f i.toNatClampNeg x))))) : am_Ok M sc Z nc ns pc ls (.int x :: .int i :: .ref q :: st) h := by
  refine am_write hq (fun {p l e R s m args below meth c Q H locs cells slots lc D cy A} r ws q0 hx hb hml hlc ho ht hK hin hfr hlo hP hD hS cov hq0 w => ?_) k
  exact va_iast hx hb hK.1 hP hD hS q0 0 hq0 rfl hi hd w
theorem am_bastore {q n : Nat} {f : Nat → Int32} {i x : Int32} (hd : decode M.2.1 pc = .ok (.bastore, 1)) (hq : h[q]? = some (some (.inl (1, n, f)))) (hi : vp_in i n) (k : am_Ok M sc Z nc ns (pc + 1) ls st (h.set q (some (.inl (1, n, upd f i.toNatClampNeg (vp_nar .boolean x)))))) : am_Ok M sc Z nc ns pc ls (.int x :: .int i :: .ref q :: st) h := by
  refine am_write hq (fun {p l e R s m args below meth c Q H locs cells slots lc D cy A} r ws q0 hx hb hml hlc ho ht hK hin hfr hlo hP hD hS cov hq0 w => ?_) k
  exact va_zast hx hb hK.1 hP hD hS q0 1 hq0 rfl hi hd w
theorem am_aastore {q y : Nat} {l : List (Option Nat)} {fs : List Value} {i : Int32} (hd : decode M.2.1 pc = .ok (.aastore, 1)) (hq : h[q]? = some (some (.inr (.inl l)))) (hy : h[y]? = some (some (.inr (.inr (3, fs))))) (hi : vp_in i l.length) (k : am_Ok M sc Z nc ns (pc + 1) ls st (h.set q (some (.inr (.inl (l.set i.toNatClampNeg (some y))))))) : am_Ok M sc Z nc ns pc ls (.ref y :: .int i :: .ref q :: st) h := by
  refine am_write hq (fun {p l' e R s m args below meth c Q H locs cells slots lc D cy A} r ws q0 hx hb hml hlc ho ht hK hin hfr hlo hP hD hS cov hq0 w => ?_) k
  obtain ⟨qk, hqk⟩ := cov y _ hy
  have hlt : i.toNatClampNeg < l.length := Nat.not_le.mp fun z => hi (Or.inr z)
  have e : am_e cy r (.inr (.inl (l.set i.toNatClampNeg (some y)))) = .inl (cy 2, l.length, .inr (.inr (.inr (.inr (va_up (fun j => (l.getD j none).map r) i.toNatClampNeg (some (r y))))))) := by
    simp only [am_e, List.length_set]
    refine congrArg (fun z : Nat → Option Nat => (Sum.inl (cy 2, l.length, .inr (.inr (.inr (.inr z)))) : va_E)) (funext fun j => ?_)
    simp only [va_up, List.getD_eq_getElem?_getD]
    by_cases ej : j = i.toNatClampNeg
    · subst ej
      rw [if_pos rfl, List.getElem?_set_self hlt]
      rfl
    · rw [if_neg ej, List.getElem?_set_ne (Ne.symm ej)]
  rw [e] at w
  exact va_astq hx hb hK.1 hP hD hS q0 2 qk 3 hq0 rfl hqk rfl hi hd w
theorem am_copy {idx q0 q1 n0 n1 : Nat} {f g : Nat → Int32} {sp dp n : Int32} (hd : decode M.2.1 pc = .ok (.invokestatic idx, 3)) (hl : Cond.methodLink M.1.cls idx arraycopyName ∈ am_T) (hn : Cond.native arraycopyName ∈ am_T) (hs : Cond.static arraycopyName ∈ am_T) (hini : Cond.initialized "java/lang/System" ∈ am_T)
    (ha : h[q0]? = some (some (.inl (0, n0, f)))) (hb1 : h[q1]? = some (some (.inl (0, n1, g)))) (h1 : ¬ sp < 0) (h2 : ¬ dp < 0) (h3 : ¬ n < 0) (h4 : sp.toNatClampNeg + n.toNatClampNeg ≤ n0) (h5 : dp.toNatClampNeg + n.toNatClampNeg ≤ n1) (hfr0 : 1 ≤ M.2.2.2.2.1) (hlo0 : (st.map fun v => v.category).sum + (nativeFrameWords "java/lang/System" "arraycopy" 5 + 11) ≤ M.2.2.2.2.2)
    (k : am_Ok M sc Z nc ns (pc + 3) ls st (h.set q1 (some (.inl (0, n1, va_cpy f g sp.toNatClampNeg dp.toNatClampNeg n.toNatClampNeg))))) : am_Ok M sc Z nc ns pc ls (.int n :: .int dp :: .ref q1 :: .int sp :: .ref q0 :: st) h := by
  refine am_write hb1 (fun {p l' e R s m args below meth c Q H locs cells slots lc D cy A} r ws w0 hx hb hml hlc ho ht hK hin hfr hlo hP hD hS cov hq0 w => ?_) k
  obtain ⟨qk, hqk⟩ := cov q0 _ ha
  have hst : ((st.map (am_v r)).map fun v => v.category).sum = (st.map fun v => v.category).sum := by
    rw [List.map_map]
    congr 1
    exact List.map_congr_left (fun v _ => am_v_cat r v)
  exact va_copyi hx hb (by rw [hml, hlc]) ho (ht _ hl) (ht _ hn) (ht _ hs) (ht _ hini) hK.1 hP hD hS qk w0 0 0 hqk hq0 rfl rfl rfl h1 h2 h3 h4 h5 (fun i _ => rfl) (by rw [hfr]; exact hfr0) (by rw [hlo, hst]; exact hlo0) hd w
/-- a step that makes a cell at an empty place -/
theorem am_make {pc' q n : Nat} {c1 : am_C} (hq : h[q]? = some none) (hnh : am_nh q h = true) (hnl : am_nl q ls = true) (hns : am_ns q st' = true) (hc1 : ∀ (cy : Nat → ClassId) (r r' : Nat → Nat), am_e cy r c1 = am_e cy r' c1) (hn : 1 ≤ nc ∧ n ≤ ns)
    (w : ∀ {p : Program} {l : Launch} {e : Env} {R : Room} {s : State} {m : MethodId} {args : Array Value} {below : List Frame} {meth : Method} {c : Code} {Q : State → Prop} {H : Heap} {locs : List Loc} {cells slots : Nat} {lc : Array Slot} {D : va_G} {cy : Nat → ClassId} {A : Nat → Prop} (r : Nat → Nat) (ws : va_W), p.tables.exec = Jvm.exec → c.code = M.2.1 → s.vm.findClass M.1.cls = some m.cls → (∀ w ∈ am_T, w.before args s = true) → am_K D cy s → va_P D vwCl ws H → va_D A ws → va_S A s.heap H locs → (∀ q, s.heap.size ≤ q → A q) → cells + 1 ≤ R.cells → slots + n ≤ R.slots →
    (∀ (a : Nat) (H1 : Heap), va_P D vwCl (ws ++ [(a, am_e cy r c1)]) H1 → va_D A (ws ++ [(a, am_e cy r c1)]) → va_S A s.heap H1 locs → W p l e R s m args below meth c H1 locs (cells + 1) (slots + n) Q (F0 m pc' lc (.ref a :: st'.map (am_v r)))) → W p l e R s m args below meth c H locs cells slots Q (F0 m pc lc (st.map (am_v r)))) (k : am_Ok M sc Z (nc - 1) (ns - n) pc' ls (.ref q :: st') (h.set q (some c1))) : am_Ok M sc Z nc ns pc ls st h := by
  intro p l e R s m args below meth c Q D cy A r0 P0 N0 X hR r H locs cells slots lc hZ hS hL hE hN
  obtain ⟨ws, hP, hD, cov⟩ := hZ.toW
  obtain ⟨hn1, hn2⟩ := hn
  obtain ⟨hN1, hN2⟩ := hN
  refine w r ws X.1 X.2.1 X.2.2.2.1 X.2.2.2.2.1 X.2.2.2.2.2.1 hP hD hS X.2.2.2.2.2.2.1 (by omega) (by omega) (fun a H1 hP1 hD1 hS1 => ?_)
  have hr : ∀ i, i ≠ q → (fun i => if i = q then a else r i) i = r i := fun i hi => if_neg hi
  have hst : st'.map (am_v (fun i => if i = q then a else r i)) = st'.map (am_v r) := List.map_congr_left (fun v hv => am_v_eq (fun i e => hr i (am_nv_ne (List.all_eq_true.mp hns v hv) i e)))
  have k1 := k p l e R s m args below meth c Q D cy A r0 P0 N0 X hR (fun i => if i = q then a else r i) H1 locs (cells + 1) (slots + n) lc (hZ.push hq hnh cov (hc1 cy) hP1 hD1) hS1 ?_ ⟨fun i hi => ?_, fun i hi => ?_, by rw [List.length_set]; exact hE.2.2⟩ ⟨by omega, by omega⟩
  · rw [List.map_cons, hst] at k1
    have e1 : am_v (fun i => if i = q then a else r i) (.ref q) = .ref a := by simp [am_v]
    rw [e1] at k1
    exact k1
  · obtain ⟨lv, hlv, hm⟩ := hL
    refine ⟨lv, hlv, fun j v hj => ?_⟩
    rw [am_v_eq (r := r) (fun i e => hr i (am_nv_ne (List.all_eq_true.mp hnl _ (List.mem_of_getElem? hj)) i e))]
    exact hm j v hj
  · have hne : i ≠ q := fun e => hE.2.1 i hi (by rw [e]; exact hq)
    rw [hr i hne]
    exact hE.1 i hi
  · by_cases ei : i = q
    · subst ei; rw [am_set_eq hq]; exact fun z => by cases z
    · rw [am_set_ne ei]; exact hE.2.1 i hi
theorem am_new {idx q ci N : Nat} {C : String} {T : u_T} {ty : Nat → FieldType} {fs : List Value} (hd : decode M.2.1 pc = .ok (.new idx, 3)) (hc : am_cls ci C T N ty) (hcl : Cond.classLink M.1.cls idx C ∈ am_T) (hins : Cond.instantiable C N ∈ am_T) (hini : Cond.initialized C ∈ am_T) (hfs : ∀ j, j < N → defaultValue (ty j) = vp_V fs j) (hfr : ∀ r : Nat → Nat, fs.map (am_v r) = fs)
    (hq : h[q]? = some none) (hnh : am_nh q h = true) (hnl : am_nl q ls = true) (hns : am_ns q st = true) (hn : 1 ≤ nc ∧ N ≤ ns) (k : am_Ok M sc Z (nc - 1) (ns - N) (pc + 3) ls (.ref q :: st) (h.set q (some (.inr (.inr (ci, fs)))))) : am_Ok M sc Z nc ns pc ls st h := by
  obtain ⟨h1, h2, h3, h4⟩ := hc
  refine am_make hq hnh hnl hns (fun cy r r' => by simp only [am_e, hfr]) hn (fun {p l e R s m args below meth c Q H locs cells slots lc D cy A} r ws hx hb ho ht hK hP hD hS hA hcl1 hsl1 w => ?_) k
  refine va_new hx hb ht h2 ty h3 ho (ht _ hcl) (ht _ hins) (ht _ hini) hK.1 hP hD hS hA h1 (fs := fs) hfs hcl1 hsl1 hd (fun a H1 g1 g2 g3 => ?_)
  have e1 : am_e cy r (.inr (.inr (ci, fs))) = .inr (ci, fs) := by simp only [am_e, hfr]
  exact w a H1 (by rw [e1]; exact g1) (by rw [e1]; exact g2) g3
theorem am_newarray {q N t : Nat} {at_ : ArrayType} {n : Int32} {ty : FieldType} (hd : decode M.2.1 pc = .ok (.newarray at_, 2)) (hty : newarray.typeOf at_ = ty) (ht2 : (t = 0 ∧ ty = .int) ∨ (t = 1 ∧ ty = .boolean)) (harr : Cond.arrayClass ty ∈ am_T) (hn0 : ¬ n < 0) (hN : n.toNatClampNeg = N) (hby : N * componentBytes ty ≤ 536870912)
    (hq : h[q]? = some none) (hnh : am_nh q h = true) (hnl : am_nl q ls = true) (hns : am_ns q st = true) (hn : 1 ≤ nc ∧ N ≤ ns) (k : am_Ok M sc Z (nc - 1) (ns - N) (pc + 2) ls (.ref q :: st) (h.set q (some (.inl (t, N, fun _ => 0))))) : am_Ok M sc Z nc ns pc ls (.int n :: st) h := by
  subst hty
  refine am_make hq hnh hnl hns (fun cy r r' => rfl) hn (fun {p l e R s m args below meth c Q H locs cells slots lc D cy A} r ws hx hb ho ht hK hP hD hS hA hcl1 hsl1 w => ?_) k
  refine va_newa hx hb (ht _ harr) rfl hK.1 hP hD hS hA (a0 := (N, .inl (fun _ => 0))) (fun cA => ?_) hn0 hN hby hcl1 hsl1 hd (fun a cA H1 g0 g1 g2 g3 => ?_)
  · rcases ht2 with ⟨-, e⟩ | ⟨-, e⟩ <;> rw [e] <;> rfl
  · have e1 : cA = cy t := by
      have g4 := (g0.2 3 _ rfl).2
      rcases ht2 with ⟨et, e⟩ | ⟨et, e⟩
      · have g5 := (hK.1.2 0 _ rfl).2
        rw [e] at g4
        subst et
        exact Option.some.inj (g4.symm.trans g5)
      · have g5 := (hK.1.2 1 _ rfl).2
        rw [e] at g4
        subst et
        exact Option.some.inj (g4.symm.trans g5)
    rw [e1] at g1 g2
    exact w a H1 g1 g2 g3
theorem am_anewarray {idx q : Nat} {n : Int32} {N : Nat} (hd : decode M.2.1 pc = .ok (.anewarray idx, 3)) (hcl : Cond.classLink M.1.cls idx RX3 ∈ am_T) (hn0 : ¬ n < 0) (hN : n.toNatClampNeg = N) (hby : N * 4 ≤ 536870912)
    (hq : h[q]? = some none) (hnh : am_nh q h = true) (hnl : am_nl q ls = true) (hns : am_ns q st = true) (hn : 1 ≤ nc ∧ N ≤ ns) (k : am_Ok M sc Z (nc - 1) (ns - N) (pc + 3) ls (.ref q :: st) (h.set q (some (.inr (.inl (List.replicate N none)))))) : am_Ok M sc Z nc ns pc ls (.int n :: st) h := by
  have en : ∀ r : Nat → Nat, (fun j => ((List.replicate N (none : Option Nat)).getD j none).map r) = fun _ => none := by
    intro r
    funext j
    have : (List.replicate N (none : Option Nat)).getD j none = none := by
      rw [List.getD_eq_getElem?_getD, List.getElem?_replicate]
      split <;> rfl
    rw [this]
    rfl
  have e1 : ∀ (cy : Nat → ClassId) (r : Nat → Nat), am_e cy r (.inr (.inl (List.replicate N none))) = .inl (cy 2, N, .inr (.inr (.inr (.inr (fun _ => none))))) := by
    intro cy r
    simp only [am_e, en r, List.length_replicate]
  refine am_make hq hnh hnl hns (fun cy r r' => by rw [e1, e1]) hn (fun {p l e R s m args below meth c Q H locs cells slots lc D cy A} r ws hx hb ho ht hK hP hD hS hA hcl1 hsl1 w => ?_) k
  refine va_newq hx hb ho (ht _ hcl) hK.2.2 hK.1 hP hD hS hA hn0 hN hby hcl1 hsl1 hd (fun a cA H1 g0 g1 g2 g3 => ?_)
  have e2 : cA = cy 2 := by
    obtain ⟨_, _, _, _, _, g4⟩ := (g0.2 3 _ rfl).2
    obtain ⟨_, _, _, _, _, g5⟩ := (hK.1.2 2 _ rfl).2
    exact Option.some.inj (g4.symm.trans g5)
  rw [e2] at g1 g2
  exact w a H1 (by rw [e1]; exact g1) (by rw [e1]; exact g2) g3
end AMH
