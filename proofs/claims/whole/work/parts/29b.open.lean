-- ===== end of PART A; then your names; then what follows =====
/-! THE CLAIM OUT OF ONE WALK OF THE LAW'S BODY. Your part is whole_start (and what it stands on); all else here is the same for every law, but numbers. -/
def R_law : String := "TurntableHouseLaw"
def lw_P (b : Addr) (xs : List Int32) (args : Array Value) (s : State) : Prop := args = #[.ref b] ∧ s.IntsAt b xs ∧ xs.length ≤ 2048 ∧ (Jvm.Cond.and given_1 narrow_1).before args s = true
def lw_Q (_ : Array Value) (s : State) (o : Outcome) (t : State) : Prop := o = .returned (some (.int 1)) ∧ Framed s o t [] room_1.cells room_1.slots
def lw_Z (below : List Frame) (a : Array Value) (s : State) : State → Prop := fun t => ∃ o, t.status = .running ∧ Ended t below o ∧ lw_Q a s o t
/-- the law's own end, with 1 on the stack, nothing written that was there before, its room as the claim has it -/
theorem lw_ret {p : Program} {l : Launch} {e : Env} {s : State} {m : MethodId} {below : List Frame} {meth : Method} {c : Code} {b : Nat} (hx : p.tables.exec = Jvm.exec) (hb : c.code = code) (hr : meth.sig.returnType = ret) (hlocks : meth.locks = false) {pc : Nat} {H : Heap} {ls : Array Slot} (hdg : decode code pc = .ok (.ireturn, 1)) : W p l e room_1 s m #[Value.ref b] below meth c H [] room_1.cells room_1.slots (lw_Z below #[Value.ref b] s) (F0 m pc ls [.int 1]) := by
  intro T hT X
  obtain ⟨fs, hret, hrun, hended, hW, hframe⟩ := X.leave (v := some (.int 1)) (hlocks := hlocks) (fun h => by rw [hr] at h; cases h)
  have hmeth' : T.vm.method? m = some meth := X.method'
  refine ⟨T.setFrames fs, ?_, .returned (some (.int 1)), hrun, hended, rfl, ⟨_, rfl⟩, hW, hframe⟩
  jvm_step X.here [X.here.top, hx, hb, hdg, hmeth', hr, ret, narrow_b1]
  (try refine ⟨rfl, ?_⟩); (try refine ⟨rfl, ?_⟩)
  first | (intro acts; rw [hret _ acts rfl rfl rfl]) | rw [hret _ _ rfl rfl rfl]
  exact Steps.refl _
/-- what holds at the law's entry: the machine, the code, the tables' words (any of lw_tbl by 'hts w (by decide +kernel)'), the script of L ints xs at the cell b, what the Statement gives of the start (any of its parts by flat_of_before) -/
def lw_At (p : Program) (s : State) (m : MethodId) (meth : Method) (c : Code) (b L : Nat) (xs : Nat → Int32) : Prop :=
  p.tables.exec = Jvm.exec ∧ c.code = code ∧ meth.sig.returnType = ret ∧ c.maxLocals = 4 ∧ s.vm.findClass R_law = some m.cls ∧ (∀ w ∈ lw_tbl, w.before #[Value.ref b] s = true) ∧ va_X b L xs s s.heap ∧ b < s.heap.size ∧ meth.locks = false ∧ (Jvm.Cond.and given_1 narrow_1).before #[Value.ref b] s = true
theorem am_N_tbl : am_N = [85, 86, 89, 90, 118, 304, 556].filterMap (fun i => lw_tbl[i]?) := by decide +kernel
theorem ao_tbl : Cond.arrayOver (.object RX3) ∈ lw_tbl := List.mem_of_getElem? (i := 109) (by decide +kernel)
theorem whole_open {J : Bool → Bool → Bool → HM → Mu → Prop} (HJ : okAll J) (hJ0 : J false false false i4 i5) {p : Program} {e : Env} {s : State} {m : MethodId} {below : List Frame} {meth : Method} {c : Code} (l : Launch) {b L : Nat} {xs : Nat → Int32} (hL : L ≤ 2048) (C0 : lw_At p s m meth c b L xs) : W p l e room_1 s m #[Value.ref b] below meth c s.heap [] 0 0 (lw_Z below #[Value.ref b] s) (entryFrame m ([Value.ref b] : List Value).toArray 4) := by
  obtain ⟨hx, hb, hr, hml, hown, hts, hX, hbl, hlocks, hgv⟩ := id C0
  have hT : ∀ w ∈ am_T, w.before #[Value.ref b] s = true := fun w hw => hts w (List.mem_filter.mp hw).1
  obtain ⟨c0, iS0, hKn0⟩ := u_known (C := RX0) (T := TX0) (N := 2) (n := 2) hT (cl_X0).2.1 (hT _ wd_111)
  obtain ⟨c1, iS1, hKn1⟩ := u_known (C := RX1) (T := TX1) (N := 13) (n := 13) hT (cl_X1).2.1 (hT _ wd_377)
  obtain ⟨c2, iS2, hKn2⟩ := u_known (C := RX2) (T := TX2) (N := 3) (n := 3) hT (cl_X2).2.1 (hT _ wd_385)
  obtain ⟨c3, iS3, hKn3⟩ := u_known (C := RX3) (T := TX3) (N := 8) (n := 8) hT (cl_X3).2.1 (hT _ wd_74)
  obtain ⟨c4, iS4, hKn4⟩ := u_known (C := RX4) (T := TX4) (N := 5) (n := 5) hT (cl_X4).2.1 (hT _ wd_66)
  obtain ⟨c5, iS5, hKn5⟩ := u_known (C := RX5) (T := TX5) (N := 32) (n := 32) hT (cl_X5).2.1 (hT _ wd_590)
  obtain ⟨cI, kI, coI, fI, gI, eI⟩ := Cond.arrayClass_spec (hT _ wd_108)
  obtain ⟨cZ, kZ, coZ, fZ, gZ, eZ⟩ := Cond.arrayClass_spec (hT _ wd_692)
  obtain ⟨coY, cY, kY, fY, -, gY', eY, nY⟩ := Cond.arrayOver_spec (hts _ ao_tbl)
  obtain ⟨D, hKc⟩ : ∃ D : va_G, ∀ (q : Nat) (x : vw_C), vwCl[q]? = some x → u_Kn s x.1 x.2.1 x.2.2 (D.1 q) (D.2 q) := by
    refine ⟨(fun k => if k = 0 then c0 else if k = 1 then c1 else if k = 2 then c2 else if k = 3 then c3 else if k = 4 then c4 else c5, fun k => if k = 0 then iS0 else if k = 1 then iS1 else if k = 2 then iS2 else if k = 3 then iS3 else if k = 4 then iS4 else iS5), ?_⟩
    intro q x hq
    match q, hq with
    | 0, hq => cases hq; exact hKn0
    | 1, hq => cases hq; exact hKn1
    | 2, hq => cases hq; exact hKn2
    | 3, hq => cases hq; exact hKn3
    | 4, hq => cases hq; exact hKn4
    | 5, hq => cases hq; exact hKn5
    | q + 6, hq => simp [vwCl] at hq
  obtain ⟨cy, hcy⟩ : ∃ cy : Nat → ClassId, cy 0 = cI ∧ cy 1 = cZ ∧ cy 2 = cY := ⟨fun k => if k = 0 then cI else if k = 1 then cZ else cY, rfl, rfl, rfl⟩
  obtain ⟨y0, y1, y2⟩ := hcy
  have hK : am_K D cy s := by
    refine ⟨⟨hKc, fun k q hq => ?_⟩, fun w hw => ?_, va_AO.of (hts _ ao_tbl)⟩
    · match k, hq with
      | 0, hq =>
        cases hq
        rw [y0]
        exact ⟨fun n z => ⟨fun k h => (by cases h), kI, gI, coI, eI⟩, fI⟩
      | 1, hq =>
        cases hq
        rw [y1]
        exact ⟨fun n z => ⟨fun k h => (by cases h), kZ, gZ, coZ, eZ⟩, fZ⟩
      | 2, hq =>
        cases hq
        rw [y2]
        exact ⟨fun n z => ⟨fun k h => (by cases h), kY, gY', coY, eY⟩, kY, coY, gY', eY, fY, nY⟩
      | k + 3, hq => simp [am_tys] at hq
    · have hw2 := hw
      rw [am_N_tbl] at hw2
      obtain ⟨i, -, hi⟩ := List.mem_filterMap.mp hw2
      refine va_Nw.of ?_ (hts w (List.mem_of_getElem? hi))
      simp only [am_N, List.mem_cons, List.not_mem_nil, or_false] at hw
      rcases hw with rfl | rfl | rfl | rfl | rfl | rfl | rfl <;> rfl
  have hbA : ¬ (fun q : Nat => s.heap.size ≤ q) b := Nat.not_le.mpr hbl
  have X : am_X mL_law (some (L, xs)) p room_1 s m #[Value.ref b] meth c D cy (fun q : Nat => s.heap.size ≤ q) (fun _ => b) (fun i => i = 1000) :=
    ⟨hx, hb, hml, hown, hT, hK, fun _ h => h, rfl, rfl, fun hi => absurd hi (by decide), rfl, hX, hbl, hbA⟩
  rw [lg_entry_eq]
  refine law_entry (xs := xs) hL HJ hJ0 p l e room_1 s m #[Value.ref b] below meth c (lw_Z below #[Value.ref b] s) D cy (fun q : Nat => s.heap.size ≤ q) (fun _ => b) (fun i => i = 1000) 61 X ?_ (fun _ => b) s.heap [] 0 0 _ ⟨fun k c hk => ?_, fun i j c d hi => ?_, fun k c hk => ?_⟩ va_S.rf (am_entry (args := [.ref 1000]) (r := fun _ => b) (n := 4) (by intro v hv; simp at hv; subst hv; rfl) (by decide)) ⟨fun _ _ => rfl, fun i hi => ?_, rfl⟩ ⟨by decide, by decide⟩
  · intro v h r H locs cells slots lc pc hz hZ hS hE hc1 hs1 hri
    have hv : v = some (.int 1) := hz
    subst hv
    refine va_forget (fun q hq => hS.2.2 q hq) ?_
    refine W.widen hc1 hs1 ?_
    exact lw_ret hx hb hr hlocks hri.1
  · rw [List.getElem?_replicate] at hk; split at hk <;> cases hk
  · rw [List.getElem?_replicate] at hi; split at hi <;> cases hi
  · rw [List.getElem?_replicate] at hk; split at hk <;> cases hk
  · subst hi
    rw [List.getElem?_replicate, if_neg (by decide)]
    exact fun z => by cases z
