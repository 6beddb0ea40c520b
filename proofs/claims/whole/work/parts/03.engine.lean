/-! judgements of the abstract machine -/
/-- a method: name, code, locals, answer's type, frames, words of locals -/
abbrev am_M : Type := MethodName × ByteArray × Nat × Option FieldType × Nat × Nat
def am_L (lc : Array Slot) (n : Nat) (ls : List (Option Value)) (r : Nat → Nat) : Prop := ∃ lv : List (Nat × Value), lv_has lc n lv ∧ ∀ (k : Nat) (v : Value), ls[k]? = some (some v) → (k, am_v r v) ∈ lv ∧ v.category = 1
def am_E (P0 : Nat → Prop) (r0 : Nat → Nat) (N0 : Nat) (r : Nat → Nat) (h : am_H) : Prop := (∀ i, P0 i → r i = r0 i) ∧ (∀ i, P0 i → h[i]? ≠ some none) ∧ h.length = N0
/-- what holds all through a method -/
def am_X (M : am_M) (sc : Option (Nat × (Nat → Int32))) (p : Program) (R : Room) (s : State) (m : MethodId) (args : Array Value) (meth : Method) (c : Code) (D : va_G) (cy : Nat → ClassId) (A : Nat → Prop) (r0 : Nat → Nat) (P0 : Nat → Prop) : Prop :=
  p.tables.exec = Jvm.exec ∧ c.code = M.2.1 ∧ c.maxLocals = M.2.2.1 ∧ s.vm.findClass M.1.cls = some m.cls ∧ (∀ w ∈ am_T, w.before args s = true) ∧ am_K D cy s ∧ (∀ q, s.heap.size ≤ q → A q) ∧ R.frames = M.2.2.2.2.1 ∧ R.locals = M.2.2.2.2.2 ∧ (M.1.name = "<init>" → meth.name = "<init>") ∧
  match sc with
  | none => True
  | some q => P0 1000 ∧ va_X (r0 1000) q.1 q.2 s s.heap ∧ r0 1000 < s.heap.size ∧ ¬ A (r0 1000)
/-- a return's instruction -/
def am_ri (M : am_M) (pc : Nat) (v : Option Value) : Prop := match v with
  | none => decode M.2.1 pc = .ok (.return_, 1) ∧ M.2.2.2.1 = none
  | some (.int x) => decode M.2.1 pc = .ok (.ireturn, 1) ∧ ∃ ty, M.2.2.2.1 = some ty ∧ narrow ty (.int x) = .int x
  | some w => decode M.2.1 pc = .ok (.areturn, 1) ∧ (w = .null ∨ ∃ a, w = .ref a) ∧ ∃ C, M.2.2.2.1 = some (.object C)
def am_Rt (M : am_M) (Z : Option Value → am_H → Prop) (p : Program) (l : Launch) (e : Env) (R : Room) (s : State) (m : MethodId) (args : Array Value) (below : List Frame) (meth : Method) (c : Code) (Q : State → Prop) (D : va_G) (cy : Nat → ClassId) (A : Nat → Prop) (r0 : Nat → Nat) (P0 : Nat → Prop) (N0 : Nat) : Prop :=
  ∀ (v : Option Value) (h : am_H) (r : Nat → Nat) (H : Heap) (locs : List Loc) (cells slots : Nat) (lc : Array Slot) (pc : Nat), Z v h → am_Z D cy r h A H → va_S A s.heap H locs → am_E P0 r0 N0 r h → cells ≤ R.cells → slots ≤ R.slots → am_ri M pc v →
    W p l e R s m args below meth c H locs cells slots Q (F0 m pc lc (v.toList.map (am_v r)))
def am_Go (M : am_M) (p : Program) (l : Launch) (e : Env) (R : Room) (s : State) (m : MethodId) (args : Array Value) (below : List Frame) (meth : Method) (c : Code) (Q : State → Prop) (D : va_G) (cy : Nat → ClassId) (A : Nat → Prop) (r0 : Nat → Nat) (P0 : Nat → Prop) (N0 : Nat) (pc : Nat) (ls : List (Option Value)) (st : List Value) (h : am_H) (nc ns : Nat) : Prop :=
  ∀ (r : Nat → Nat) (H : Heap) (locs : List Loc) (cells slots : Nat) (lc : Array Slot), am_Z D cy r h A H → va_S A s.heap H locs → am_L lc M.2.2.1 ls r → am_E P0 r0 N0 r h → cells + nc ≤ R.cells ∧ slots + ns ≤ R.slots →
    W p l e R s m args below meth c H locs cells slots Q (F0 m pc lc (st.map (am_v r)))
/-- from this place in the method it comes to its end, with Z -/
def am_Ok (M : am_M) (sc : Option (Nat × (Nat → Int32))) (Z : Option Value → am_H → Prop) (nc ns : Nat) (pc : Nat) (ls : List (Option Value)) (st : List Value) (h : am_H) : Prop :=
  ∀ (p : Program) (l : Launch) (e : Env) (R : Room) (s : State) (m : MethodId) (args : Array Value) (below : List Frame) (meth : Method) (c : Code) (Q : State → Prop) (D : va_G) (cy : Nat → ClassId) (A : Nat → Prop) (r0 : Nat → Nat) (P0 : Nat → Prop) (N0 : Nat),
    am_X M sc p R s m args meth c D cy A r0 P0 → am_Rt M Z p l e R s m args below meth c Q D cy A r0 P0 N0 → am_Go M p l e R s m args below meth c Q D cy A r0 P0 N0 pc ls st h nc ns
section AMR
variable {M : am_M} {sc : Option (Nat × (Nat → Int32))} {Z : Option Value → am_H → Prop} {nc ns pc : Nat} {ls : List (Option Value)} {st st' : List Value} {h : am_H}
/-- a step that leaves heap and locals -/
theorem am_pure {pc' : Nat} (w : ∀ {p : Program} {l : Launch} {e : Env} {R : Room} {s : State} {m : MethodId} {args : Array Value} {below : List Frame} {meth : Method} {c : Code} {Q : State → Prop} {H : Heap} {locs : List Loc} {cells slots : Nat} {lc : Array Slot} (r : Nat → Nat), p.tables.exec = Jvm.exec → c.code = M.2.1 → s.vm.findClass M.1.cls = some m.cls → (∀ w ∈ am_T, w.before args s = true) → (∀ (k : Nat) (v : Value), ls[k]? = some (some v) → lc[k]? = some (.val (am_v r v))) →
    W p l e R s m args below meth c H locs cells slots Q (F0 m pc' lc (st'.map (am_v r))) → W p l e R s m args below meth c H locs cells slots Q (F0 m pc lc (st.map (am_v r)))) (k : am_Ok M sc Z nc ns pc' ls st' h) : am_Ok M sc Z nc ns pc ls st h := by
  intro p l e R s m args below meth c Q D cy A r0 P0 N0 X hR r H locs cells slots lc hZ hS hL hE hN
  obtain ⟨lv, hl, hv⟩ := id hL
  exact w r X.1 X.2.1 X.2.2.2.1 X.2.2.2.2.1 (fun k v hk => hl.2.2 _ (hv k v hk).1) (k p l e R s m args below meth c Q D cy A r0 P0 N0 X hR r H locs cells slots lc hZ hS hL hE hN)
theorem am_iconst {n : Int} {v : Int32} (hd : decode M.2.1 pc = .ok (.iconst n, 1)) (hv : Int32.ofInt n = v) (k : am_Ok M sc Z nc ns (pc + 1) ls (.int v :: st) h) : am_Ok M sc Z nc ns pc ls st h := am_pure (fun r hx hb ho ht hl w => lv_iconst hx hb hd hv w) k
theorem am_bipush {n : Int} {v : Int32} (hd : decode M.2.1 pc = .ok (.bipush n, 2)) (hv : (Int8.ofInt n).toInt32 = v) (k : am_Ok M sc Z nc ns (pc + 2) ls (.int v :: st) h) : am_Ok M sc Z nc ns pc ls st h := am_pure (fun r hx hb ho ht hl w => lv_bipush hx hb hd hv w) k
theorem am_sipush {n : Int} {v : Int32} (hd : decode M.2.1 pc = .ok (.sipush n, 3)) (hv : (Int16.ofInt n).toInt32 = v) (k : am_Ok M sc Z nc ns (pc + 3) ls (.int v :: st) h) : am_Ok M sc Z nc ns pc ls st h := am_pure (fun r hx hb ho ht hl w => lv_sipush hx hb hd hv w) k
theorem am_ldc {i : Nat} {v : Int32} (hd : decode M.2.1 pc = .ok (.ldc i, 2)) (hc : Cond.constant M.1.cls i v ∈ am_T) (k : am_Ok M sc Z nc ns (pc + 2) ls (.int v :: st) h) : am_Ok M sc Z nc ns pc ls st h := am_pure (fun r hx hb ho ht hl w => lv_ldc hx hb ho (ht _ hc) hd w) k
theorem am_ldcw {i : Nat} {v : Int32} (hd : decode M.2.1 pc = .ok (.ldc_w i, 3)) (hc : Cond.constant M.1.cls i v ∈ am_T) (k : am_Ok M sc Z nc ns (pc + 3) ls (.int v :: st) h) : am_Ok M sc Z nc ns pc ls st h := am_pure (fun r hx hb ho ht hl w => lv_ldcw hx hb ho (ht _ hc) hd w) k
theorem am_iload_n {i : Fin 4} {x : Int32} (hd : decode M.2.1 pc = .ok (.iload_n i, 1)) (hl : ls[(i : Nat)]? = some (some (.int x))) (k : am_Ok M sc Z nc ns (pc + 1) ls (.int x :: st) h) : am_Ok M sc Z nc ns pc ls st h := am_pure (fun r hx hb ho ht hg w => lv_iload_n hx hb hd rfl (hg _ _ hl) w) k
theorem am_iload {i : Nat} {x : Int32} (hd : decode M.2.1 pc = .ok (.iload i, 2)) (hl : ls[i]? = some (some (.int x))) (k : am_Ok M sc Z nc ns (pc + 2) ls (.int x :: st) h) : am_Ok M sc Z nc ns pc ls st h := am_pure (fun r hx hb ho ht hg w => lv_iload hx hb hd (hg _ _ hl) w) k
theorem am_aload_n {i : Fin 4} {x : Nat} (hd : decode M.2.1 pc = .ok (.aload_n i, 1)) (hl : ls[(i : Nat)]? = some (some (.ref x))) (k : am_Ok M sc Z nc ns (pc + 1) ls (.ref x :: st) h) : am_Ok M sc Z nc ns pc ls st h := am_pure (fun r hx hb ho ht hg w => lv_aload_n hx hb hd rfl (hg _ _ hl) w) k
theorem am_aload {i : Nat} {x : Nat} (hd : decode M.2.1 pc = .ok (.aload i, 2)) (hl : ls[i]? = some (some (.ref x))) (k : am_Ok M sc Z nc ns (pc + 2) ls (.ref x :: st) h) : am_Ok M sc Z nc ns pc ls st h := am_pure (fun r hx hb ho ht hg w => lv_aload hx hb hd (hg _ _ hl) w) k
theorem am_aload_nN {i : Fin 4} (hd : decode M.2.1 pc = .ok (.aload_n i, 1)) (hl : ls[(i : Nat)]? = some (some .null)) (k : am_Ok M sc Z nc ns (pc + 1) ls (.null :: st) h) : am_Ok M sc Z nc ns pc ls st h := am_pure (fun r hx hb ho ht hg w => lv_aload_nN hx hb hd rfl (hg _ _ hl) w) k
theorem am_iadd {x y : Int32} (hd : decode M.2.1 pc = .ok (.iadd, 1)) (k : am_Ok M sc Z nc ns (pc + 1) ls (.int (x + y) :: st) h) : am_Ok M sc Z nc ns pc ls (.int y :: .int x :: st) h := am_pure (fun r hx hb ho ht hg w => lv_iadd hx hb hd w) k
theorem am_isub {x y : Int32} (hd : decode M.2.1 pc = .ok (.isub, 1)) (k : am_Ok M sc Z nc ns (pc + 1) ls (.int (x - y) :: st) h) : am_Ok M sc Z nc ns pc ls (.int y :: .int x :: st) h := am_pure (fun r hx hb ho ht hg w => lv_isub hx hb hd w) k
theorem am_imul {x y : Int32} (hd : decode M.2.1 pc = .ok (.imul, 1)) (k : am_Ok M sc Z nc ns (pc + 1) ls (.int (x * y) :: st) h) : am_Ok M sc Z nc ns pc ls (.int y :: .int x :: st) h := am_pure (fun r hx hb ho ht hg w => lv_imul hx hb hd w) k
theorem am_iand {x y : Int32} (hd : decode M.2.1 pc = .ok (.iand, 1)) (k : am_Ok M sc Z nc ns (pc + 1) ls (.int (x &&& y) :: st) h) : am_Ok M sc Z nc ns pc ls (.int y :: .int x :: st) h := am_pure (fun r hx hb ho ht hg w => lv_iand hx hb hd w) k
theorem am_ior {x y : Int32} (hd : decode M.2.1 pc = .ok (.ior, 1)) (k : am_Ok M sc Z nc ns (pc + 1) ls (.int (x ||| y) :: st) h) : am_Ok M sc Z nc ns pc ls (.int y :: .int x :: st) h := am_pure (fun r hx hb ho ht hg w => lv_ior hx hb hd w) k
theorem am_ixor {x y : Int32} (hd : decode M.2.1 pc = .ok (.ixor, 1)) (k : am_Ok M sc Z nc ns (pc + 1) ls (.int (x ^^^ y) :: st) h) : am_Ok M sc Z nc ns pc ls (.int y :: .int x :: st) h := am_pure (fun r hx hb ho ht hg w => lv_ixor hx hb hd w) k
theorem am_idiv {x y : Int32} (hd : decode M.2.1 pc = .ok (.idiv, 1)) (hy : ¬ y = 0) (k : am_Ok M sc Z nc ns (pc + 1) ls (.int (x / y) :: st) h) : am_Ok M sc Z nc ns pc ls (.int y :: .int x :: st) h := am_pure (fun r hx hb ho ht hg w => lv_idiv hx hb hd hy w) k
theorem am_irem {x y : Int32} (hd : decode M.2.1 pc = .ok (.irem, 1)) (hy : ¬ y = 0) (k : am_Ok M sc Z nc ns (pc + 1) ls (.int (x - x / y * y) :: st) h) : am_Ok M sc Z nc ns pc ls (.int y :: .int x :: st) h := am_pure (fun r hx hb ho ht hg w => lv_irem hx hb hd hy w) k
theorem am_ineg {x : Int32} (hd : decode M.2.1 pc = .ok (.ineg, 1)) (k : am_Ok M sc Z nc ns (pc + 1) ls (.int (-x) :: st) h) : am_Ok M sc Z nc ns pc ls (.int x :: st) h := am_pure (fun r hx hb ho ht hg w => lv_ineg hx hb hd w) k
theorem am_ishl {x y : Int32} (hd : decode M.2.1 pc = .ok (.ishl, 1)) (k : am_Ok M sc Z nc ns (pc + 1) ls (.int (x <<< (y &&& 31)) :: st) h) : am_Ok M sc Z nc ns pc ls (.int y :: .int x :: st) h := am_pure (fun r hx hb ho ht hg w => lv_ishl hx hb hd w) k
theorem am_ishr {x y : Int32} (hd : decode M.2.1 pc = .ok (.ishr, 1)) (k : am_Ok M sc Z nc ns (pc + 1) ls (.int (x >>> (y &&& 31)) :: st) h) : am_Ok M sc Z nc ns pc ls (.int y :: .int x :: st) h := am_pure (fun r hx hb ho ht hg w => lv_ishr hx hb hd w) k
theorem am_iushr {x y : Int32} (hd : decode M.2.1 pc = .ok (.iushr, 1)) (k : am_Ok M sc Z nc ns (pc + 1) ls (.int ((x.toUInt32 >>> (y.toUInt32 &&& Int32.toUInt32 31)).toInt32) :: st) h) : am_Ok M sc Z nc ns pc ls (.int y :: .int x :: st) h := am_pure (fun r hx hb ho ht hg w => lv_iushr hx hb hd rfl w) k
theorem am_v_cat (r : Nat → Nat) (v : Value) : (am_v r v).category = v.category := by cases v <;> rfl
theorem am_dup {v : Value} (hd : decode M.2.1 pc = .ok (.dup, 1)) (hv : v.category = 1) (k : am_Ok M sc Z nc ns (pc + 1) ls (v :: v :: st) h) : am_Ok M sc Z nc ns pc ls (v :: st) h := am_pure (fun r hx hb ho ht hg w => lv_dup hx hb hd (by rw [am_v_cat]; exact hv) w) k
theorem am_dup2 {u v : Value} (hd : decode M.2.1 pc = .ok (.dup2, 1)) (hu : u.category = 1) (hv : v.category = 1) (k : am_Ok M sc Z nc ns (pc + 1) ls (u :: v :: u :: v :: st) h) : am_Ok M sc Z nc ns pc ls (u :: v :: st) h := am_pure (fun r hx hb ho ht hg w => lv_dup2_11 hx hb hd (by rw [am_v_cat]; exact hu) (by rw [am_v_cat]; exact hv) w) k
theorem am_pop {v : Value} (hd : decode M.2.1 pc = .ok (.pop, 1)) (hv : v.category = 1) (k : am_Ok M sc Z nc ns (pc + 1) ls st h) : am_Ok M sc Z nc ns pc ls (v :: st) h := am_pure (fun r hx hb ho ht hg w => lv_pop hx hb hd (by rw [am_v_cat]; exact hv) w) k
theorem am_goto {off : Int} (tgt : Nat) (hd : decode M.2.1 pc = .ok (.goto off, 3)) (ht : (pc : Int) + off = (tgt : Int)) (k : am_Ok M sc Z nc ns tgt ls st h) : am_Ok M sc Z nc ns pc ls st h := am_pure (fun r hx hb ho hh hg w => lv_goto hx hb hd ht w) k
theorem am_ifnull {x : Nat} {off : Int} (hd : decode M.2.1 pc = .ok (.ifnull off, 3)) (k : am_Ok M sc Z nc ns (pc + 3) ls st h) : am_Ok M sc Z nc ns pc ls (.ref x :: st) h := am_pure (fun r hx hb ho ht hg w => lv_ifnull hx hb hd w) k
theorem am_ifnullN {off : Int} (tgt : Nat) (hd : decode M.2.1 pc = .ok (.ifnull off, 3)) (ht : (pc : Int) + off = (tgt : Int)) (k : am_Ok M sc Z nc ns tgt ls st h) : am_Ok M sc Z nc ns pc ls (.null :: st) h := am_pure (fun r hx hb ho hh hg w => lv_ifnullN hx hb hd ht w) k
theorem am_ifnonnull {x : Nat} {off : Int} (tgt : Nat) (hd : decode M.2.1 pc = .ok (.ifnonnull off, 3)) (ht : (pc : Int) + off = (tgt : Int)) (k : am_Ok M sc Z nc ns tgt ls st h) : am_Ok M sc Z nc ns pc ls (.ref x :: st) h := am_pure (fun r hx hb ho hh hg w => lv_ifnonnull hx hb hd ht w) k
theorem am_ifnonnullN {off : Int} (hd : decode M.2.1 pc = .ok (.ifnonnull off, 3)) (k : am_Ok M sc Z nc ns (pc + 3) ls st h) : am_Ok M sc Z nc ns pc ls (.null :: st) h := am_pure (fun r hx hb ho ht hg w => lv_ifnonnullN hx hb hd w) k
/-- a branch -/
theorem am_br {pc1 pc2 : Nat} {C : Prop} (w : ∀ {p : Program} {l : Launch} {e : Env} {R : Room} {s : State} {m : MethodId} {args : Array Value} {below : List Frame} {meth : Method} {c : Code} {Q : State → Prop} {H : Heap} {locs : List Loc} {cells slots : Nat} {lc : Array Slot} (r : Nat → Nat), p.tables.exec = Jvm.exec → c.code = M.2.1 →
    (C → W p l e R s m args below meth c H locs cells slots Q (F0 m pc1 lc (st'.map (am_v r)))) → (¬ C → W p l e R s m args below meth c H locs cells slots Q (F0 m pc2 lc (st'.map (am_v r)))) → W p l e R s m args below meth c H locs cells slots Q (F0 m pc lc (st.map (am_v r)))) (k1 : C → am_Ok M sc Z nc ns pc1 ls st' h) (k2 : ¬ C → am_Ok M sc Z nc ns pc2 ls st' h) : am_Ok M sc Z nc ns pc ls st h := by
  intro p l e R s m args below meth c Q D cy A r0 P0 N0 X hR r H locs cells slots lc hZ hS hL hE hN
  exact w r X.1 X.2.1 (fun hc => k1 hc p l e R s m args below meth c Q D cy A r0 P0 N0 X hR r H locs cells slots lc hZ hS hL hE hN) (fun hc => k2 hc p l e R s m args below meth c Q D cy A r0 P0 N0 X hR r H locs cells slots lc hZ hS hL hE hN)
theorem am_icmp_eq {x y : Int32} {off : Int} (tgt : Nat) (hd : decode M.2.1 pc = .ok (.if_icmp .eq off, 3)) (ht : (pc : Int) + off = (tgt : Int)) (k1 : x = y → am_Ok M sc Z nc ns tgt ls st h) (k2 : ¬ x = y → am_Ok M sc Z nc ns (pc + 3) ls st h) : am_Ok M sc Z nc ns pc ls (.int y :: .int x :: st) h := am_br (fun r hx hb w1 w2 => lv_icmp_eq hx hb hd ht w1 w2) k1 k2
theorem am_icmp_ne {x y : Int32} {off : Int} (tgt : Nat) (hd : decode M.2.1 pc = .ok (.if_icmp .ne off, 3)) (ht : (pc : Int) + off = (tgt : Int)) (k1 : x = y → am_Ok M sc Z nc ns (pc + 3) ls st h) (k2 : ¬ x = y → am_Ok M sc Z nc ns tgt ls st h) : am_Ok M sc Z nc ns pc ls (.int y :: .int x :: st) h := am_br (fun r hx hb w1 w2 => lv_icmp_ne hx hb hd ht w2 w1) k1 k2
theorem am_icmp_lt {x y : Int32} {off : Int} (tgt : Nat) (hd : decode M.2.1 pc = .ok (.if_icmp .lt off, 3)) (ht : (pc : Int) + off = (tgt : Int)) (k1 : x < y → am_Ok M sc Z nc ns tgt ls st h) (k2 : ¬ x < y → am_Ok M sc Z nc ns (pc + 3) ls st h) : am_Ok M sc Z nc ns pc ls (.int y :: .int x :: st) h := am_br (fun r hx hb w1 w2 => lv_icmp_lt hx hb hd ht w1 w2) k1 k2
theorem am_icmp_ge {x y : Int32} {off : Int} (tgt : Nat) (hd : decode M.2.1 pc = .ok (.if_icmp .ge off, 3)) (ht : (pc : Int) + off = (tgt : Int)) (k1 : y ≤ x → am_Ok M sc Z nc ns tgt ls st h) (k2 : ¬ y ≤ x → am_Ok M sc Z nc ns (pc + 3) ls st h) : am_Ok M sc Z nc ns pc ls (.int y :: .int x :: st) h := am_br (fun r hx hb w1 w2 => lv_icmp_ge hx hb hd ht w1 w2) k1 k2
theorem am_icmp_gt {x y : Int32} {off : Int} (tgt : Nat) (hd : decode M.2.1 pc = .ok (.if_icmp .gt off, 3)) (ht : (pc : Int) + off = (tgt : Int)) (k1 : y < x → am_Ok M sc Z nc ns tgt ls st h) (k2 : ¬ y < x → am_Ok M sc Z nc ns (pc + 3) ls st h) : am_Ok M sc Z nc ns pc ls (.int y :: .int x :: st) h := am_br (fun r hx hb w1 w2 => lv_icmp_gt hx hb hd ht w1 w2) k1 k2
theorem am_icmp_le {x y : Int32} {off : Int} (tgt : Nat) (hd : decode M.2.1 pc = .ok (.if_icmp .le off, 3)) (ht : (pc : Int) + off = (tgt : Int)) (k1 : x ≤ y → am_Ok M sc Z nc ns tgt ls st h) (k2 : ¬ x ≤ y → am_Ok M sc Z nc ns (pc + 3) ls st h) : am_Ok M sc Z nc ns pc ls (.int y :: .int x :: st) h := am_br (fun r hx hb w1 w2 => lv_icmp_le hx hb hd ht w1 w2) k1 k2
theorem am_if_eq {x : Int32} {off : Int} (tgt : Nat) (hd : decode M.2.1 pc = .ok (.ifCond .eq off, 3)) (ht : (pc : Int) + off = (tgt : Int)) (k1 : x = 0 → am_Ok M sc Z nc ns tgt ls st h) (k2 : ¬ x = 0 → am_Ok M sc Z nc ns (pc + 3) ls st h) : am_Ok M sc Z nc ns pc ls (.int x :: st) h := am_br (fun r hx hb w1 w2 => lv_if_eq hx hb hd ht w1 w2) k1 k2
theorem am_if_ne {x : Int32} {off : Int} (tgt : Nat) (hd : decode M.2.1 pc = .ok (.ifCond .ne off, 3)) (ht : (pc : Int) + off = (tgt : Int)) (k1 : x = 0 → am_Ok M sc Z nc ns (pc + 3) ls st h) (k2 : ¬ x = 0 → am_Ok M sc Z nc ns tgt ls st h) : am_Ok M sc Z nc ns pc ls (.int x :: st) h := am_br (fun r hx hb w1 w2 => lv_if_ne hx hb hd ht w2 w1) k1 k2
theorem am_if_lt {x : Int32} {off : Int} (tgt : Nat) (hd : decode M.2.1 pc = .ok (.ifCond .lt off, 3)) (ht : (pc : Int) + off = (tgt : Int)) (k1 : x < 0 → am_Ok M sc Z nc ns tgt ls st h) (k2 : ¬ x < 0 → am_Ok M sc Z nc ns (pc + 3) ls st h) : am_Ok M sc Z nc ns pc ls (.int x :: st) h := am_br (fun r hx hb w1 w2 => lv_if_lt hx hb hd ht w1 w2) k1 k2
theorem am_if_ge {x : Int32} {off : Int} (tgt : Nat) (hd : decode M.2.1 pc = .ok (.ifCond .ge off, 3)) (ht : (pc : Int) + off = (tgt : Int)) (k1 : 0 ≤ x → am_Ok M sc Z nc ns tgt ls st h) (k2 : ¬ 0 ≤ x → am_Ok M sc Z nc ns (pc + 3) ls st h) : am_Ok M sc Z nc ns pc ls (.int x :: st) h := am_br (fun r hx hb w1 w2 => lv_if_ge hx hb hd ht w1 w2) k1 k2
theorem am_if_gt {x : Int32} {off : Int} (tgt : Nat) (hd : decode M.2.1 pc = .ok (.ifCond .gt off, 3)) (ht : (pc : Int) + off = (tgt : Int)) (k1 : 0 < x → am_Ok M sc Z nc ns tgt ls st h) (k2 : ¬ 0 < x → am_Ok M sc Z nc ns (pc + 3) ls st h) : am_Ok M sc Z nc ns pc ls (.int x :: st) h := am_br (fun r hx hb w1 w2 => lv_if_gt hx hb hd ht w1 w2) k1 k2
theorem am_if_le {x : Int32} {off : Int} (tgt : Nat) (hd : decode M.2.1 pc = .ok (.ifCond .le off, 3)) (ht : (pc : Int) + off = (tgt : Int)) (k1 : x ≤ 0 → am_Ok M sc Z nc ns tgt ls st h) (k2 : ¬ x ≤ 0 → am_Ok M sc Z nc ns (pc + 3) ls st h) : am_Ok M sc Z nc ns pc ls (.int x :: st) h := am_br (fun r hx hb w1 w2 => lv_if_le hx hb hd ht w1 w2) k1 k2
/-- returns -/
theorem am_ret {v : Option Value} (hst : v.toList = st) (hi : am_ri M pc v) (hz : Z v h) : am_Ok M sc Z nc ns pc ls st h := by
  intro p l e R s m args below meth c Q D cy A r0 P0 N0 X hR r H locs cells slots lc hZ hS hL hE hN
  subst hst
  exact hR v h r H locs cells slots lc pc hz hZ hS hE (by omega) (by omega) hi
theorem am_ireturn {x : Int32} (hd : decode M.2.1 pc = .ok (.ireturn, 1)) (ht : M.2.2.2.1 = some .int) (hz : Z (some (.int x)) h) : am_Ok M sc Z nc ns pc ls [.int x] h := am_ret (v := some (.int x)) rfl ⟨hd, .int, ht, rfl⟩ hz
theorem am_zreturn {x : Int32} (hd : decode M.2.1 pc = .ok (.ireturn, 1)) (ht : M.2.2.2.1 = some .boolean) (hx : narrow .boolean (.int x) = .int x) (hz : Z (some (.int x)) h) : am_Ok M sc Z nc ns pc ls [.int x] h := am_ret (v := some (.int x)) rfl ⟨hd, .boolean, ht, hx⟩ hz
theorem am_vreturn (hd : decode M.2.1 pc = .ok (.return_, 1)) (ht : M.2.2.2.1 = none) (hz : Z none h) : am_Ok M sc Z nc ns pc ls [] h := am_ret (v := none) rfl ⟨hd, ht⟩ hz
theorem am_areturn {x : Nat} {C : String} (hd : decode M.2.1 pc = .ok (.areturn, 1)) (ht : M.2.2.2.1 = some (.object C)) (hz : Z (some (.ref x)) h) : am_Ok M sc Z nc ns pc ls [.ref x] h := am_ret (v := some (.ref x)) rfl ⟨hd, Or.inr ⟨x, rfl⟩, C, ht⟩ hz
/-- stores into a local -/
theorem am_store {pc' i : Nat} {v : Value} (hi : i < M.2.2.1) (hls : ls.length = M.2.2.1) (hv : v.category = 1)
    (w : ∀ {p : Program} {l : Launch} {e : Env} {R : Room} {s : State} {m : MethodId} {args : Array Value} {below : List Frame} {meth : Method} {c : Code} {Q : State → Prop} {H : Heap} {locs : List Loc} {cells slots : Nat} {lc : Array Slot} (r : Nat → Nat) (lv : List (Nat × Value)), p.tables.exec = Jvm.exec → c.code = M.2.1 → lv_has lc M.2.2.1 lv → (∀ (k : Nat) (v : Value), ls[k]? = some (some v) → (k, am_v r v) ∈ lv) →
      (∀ lc' : Array Slot, lv_has lc' M.2.2.1 ((i, am_v r v) :: lv.filter (fun q => !(q.1 == i) && !(q.1 + 1 == i && q.2.category == 2))) → W p l e R s m args below meth c H locs cells slots Q (F0 m pc' lc' (st'.map (am_v r)))) → W p l e R s m args below meth c H locs cells slots Q (F0 m pc lc (st.map (am_v r)))) (k : am_Ok M sc Z nc ns pc' (ls.set i (some v)) st' h) : am_Ok M sc Z nc ns pc ls st h := by
  intro p l e R s m args below meth c Q D cy A r0 P0 N0 X hR r H locs cells slots lc hZ hS hL hE hN
  obtain ⟨lv, hl, hlv⟩ := id hL
  refine w r lv X.1 X.2.1 hl (fun k v hk => (hlv k v hk).1) (fun lc' hl' => ?_)
  refine k p l e R s m args below meth c Q D cy A r0 P0 N0 X hR r H locs cells slots lc' hZ hS ⟨_, hl', fun j u hj => ?_⟩ hE hN
  by_cases e : j = i
  · subst e
    rw [List.getElem?_set_self (by omega)] at hj
    have e2 : v = u := Option.some.inj (Option.some.inj hj)
    subst e2
    exact ⟨List.mem_cons_self, hv⟩
  · rw [List.getElem?_set_ne (Ne.symm e)] at hj
    obtain ⟨h1, h2⟩ := hlv j u hj
    refine ⟨List.mem_cons_of_mem _ (List.mem_filter.mpr ⟨h1, ?_⟩), h2⟩
    have hc : (am_v r u).category = 1 := by rw [am_v_cat]; exact h2
    simp [e, hc]
theorem am_istore_n {i : Fin 4} {x : Int32} (hd : decode M.2.1 pc = .ok (.istore_n i, 1)) (hi : (i : Nat) < M.2.2.1) (hls : ls.length = M.2.2.1) (k : am_Ok M sc Z nc ns (pc + 1) (ls.set i (some (.int x))) st h) : am_Ok M sc Z nc ns pc ls (.int x :: st) h := am_store (i := (i : Nat)) (v := .int x) hi hls rfl (fun r lv hx hb hl hm w => lv_istore_n hx hb hd rfl hl hi rfl w) k
theorem am_istore {i : Nat} {x : Int32} (hd : decode M.2.1 pc = .ok (.istore i, 2)) (hi : i < M.2.2.1) (hls : ls.length = M.2.2.1) (k : am_Ok M sc Z nc ns (pc + 2) (ls.set i (some (.int x))) st h) : am_Ok M sc Z nc ns pc ls (.int x :: st) h := am_store (i := i) (v := .int x) hi hls rfl (fun r lv hx hb hl hm w => lv_istore hx hb hd hl hi rfl w) k
theorem am_astore_n {i : Fin 4} {x : Nat} (hd : decode M.2.1 pc = .ok (.astore_n i, 1)) (hi : (i : Nat) < M.2.2.1) (hls : ls.length = M.2.2.1) (k : am_Ok M sc Z nc ns (pc + 1) (ls.set i (some (.ref x))) st h) : am_Ok M sc Z nc ns pc ls (.ref x :: st) h := am_store (i := (i : Nat)) (v := .ref x) hi hls rfl (fun r lv hx hb hl hm w => lv_astore_n hx hb hd rfl hl hi rfl w) k
theorem am_astore {i : Nat} {x : Nat} (hd : decode M.2.1 pc = .ok (.astore i, 2)) (hi : i < M.2.2.1) (hls : ls.length = M.2.2.1) (k : am_Ok M sc Z nc ns (pc + 2) (ls.set i (some (.ref x))) st h) : am_Ok M sc Z nc ns pc ls (.ref x :: st) h := am_store (i := i) (v := .ref x) hi hls rfl (fun r lv hx hb hl hm w => lv_astore hx hb hd hl hi rfl w) k
theorem am_astore_nN {i : Fin 4} (hd : decode M.2.1 pc = .ok (.astore_n i, 1)) (hi : (i : Nat) < M.2.2.1) (hls : ls.length = M.2.2.1) (k : am_Ok M sc Z nc ns (pc + 1) (ls.set i (some .null)) st h) : am_Ok M sc Z nc ns pc ls (.null :: st) h := am_store (i := (i : Nat)) (v := .null) hi hls rfl (fun r lv hx hb hl hm w => lv_astore_nN hx hb hd rfl hl hi rfl w) k
theorem am_iinc {i : Nat} {n : Int} {x v : Int32} (hd : decode M.2.1 pc = .ok (.iinc i n, 3)) (hi : i < M.2.2.1) (hls : ls.length = M.2.2.1) (hl : ls[i]? = some (some (.int x))) (hv : x + Int32.ofInt n = v) (k : am_Ok M sc Z nc ns (pc + 3) (ls.set i (some (.int v))) st h) : am_Ok M sc Z nc ns pc ls st h := am_store (i := i) (v := .int v) hi hls rfl (fun r lv hx hb hl2 hm w => by
  obtain ⟨q, hq⟩ := List.getElem?_of_mem (hm i (.int x) hl)
  exact lv_iinc hx hb hd hl2 hq hv hi rfl w) k
end AMR
