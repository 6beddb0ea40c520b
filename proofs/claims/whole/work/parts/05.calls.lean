/-! contracts and calls of the abstract machine -/
def am_A (r : Nat → Nat) (h : am_H) (sz : Nat) : Nat → Prop := fun q => (∃ (k : Nat) (c : am_C), h[k]? = some (some c) ∧ r k = q) ∨ sz ≤ q
def am_P0 (h : am_H) : Nat → Prop := fun i => (∃ c, h[i]? = some (some c)) ∨ i = 1000
def am_Qc (D : va_G) (cy : Nat → ClassId) (r : Nat → Nat) (h : am_H) (sz : Nat) (Z : Option Value → am_H → Prop) : Array Value → State → Outcome → State → Prop := fun _ st oc t =>
  (∃ (v : Option Value) (h' : am_H) (r' : Nat → Nat), Z v h' ∧ oc = .returned (v.map (am_v r')) ∧ am_E (am_P0 h) r h.length r' h' ∧ am_Z D cy r' h' (am_A r h sz) t.heap) ∧ va_F (am_A r h sz) st t
def am_ws (M : am_M) : List Cond := .code M.1 M.2.1 M.2.2.1 M.2.2.2.1 :: am_T
def am_Pc (D : va_G) (cy : Nat → ClassId) (r : Nat → Nat) (args : List Value) (h : am_H) (sz : Nat) : Array Value → State → Prop := va_Pc (args.map (am_v r)) (fun U => U.heap.size = sz ∧ am_Z D cy r h (am_A r h sz) U.heap ∧ am_K D cy U)
/-- a method's contract at these arguments and this world -/
def am_Met (M : am_M) (args : List Value) (h : am_H) (nc ns : Nat) (Z : Option Value → am_H → Prop) : Prop :=
  ∀ (l : Launch) (D : va_G) (cy : Nat → ClassId) (r : Nat → Nat) (sz : Nat), Met l M.1 (am_ws M) { frames := M.2.2.2.2.1, cells := nc, slots := ns, locals := M.2.2.2.2.2 } (am_Pc D cy r args h sz) (am_Qc D cy r h sz Z) nc ns (am_A r h sz)
theorem am_lvargs : ∀ (vs : List Value) (i : Nat), (∀ v ∈ vs, v.category = 1) → ∀ (k : Nat) (v : Value), vs[k]? = some v → (i + k, v) ∈ lv_args i vs
  | [], _, _, k, v, h => by simp at h
  | x :: xs, i, hc, 0, v, h => by
    have : x = v := Option.some.inj h
    subst this
    exact List.mem_cons_self
  | x :: xs, i, hc, k + 1, v, h => by
    have h1 : xs[k]? = some v := h
    have h2 := am_lvargs xs (i + 1) (fun v hv => hc v (List.mem_cons_of_mem _ hv)) k v h1
    have h3 : lv_args i (x :: xs) = (i, x) :: lv_args (i + 1) xs := by
      show (i, x) :: lv_args (if x.category = 2 then i + 2 else i + 1) xs = _
      rw [if_neg (by rw [hc x List.mem_cons_self]; decide)]
    rw [h3]
    refine List.mem_cons_of_mem _ ?_
    rw [show i + (k + 1) = i + 1 + k by omega]
    exact h2
theorem am_sl_len : ∀ (vs : List Value), (∀ v ∈ vs, v.category = 1) → (lg_sl vs).length = vs.length
  | [], _ => rfl
  | x :: xs, hc => by
    have h1 := am_sl_len xs (fun v hv => hc v (List.mem_cons_of_mem _ hv))
    have h2 : lg_sl (x :: xs) = .val x :: lg_sl xs := by
      simp only [lg_sl, List.flatMap_cons]
      rw [if_neg (by rw [hc x List.mem_cons_self]; decide)]
      rfl
    rw [h2, List.length_cons, h1, List.length_cons]
/-- the locals at a method's entry -/
def am_l0 (n : Nat) (args : List Value) : List (Option Value) := args.map some ++ List.replicate (n - args.length) none
theorem am_entry {n : Nat} {args : List Value} {r : Nat → Nat} (hc : ∀ v ∈ args, v.category = 1) (hn : args.length ≤ n) : am_L ((lg_sl (args.map (am_v r)) ++ List.replicate (n - (lg_sl (args.map (am_v r))).length) Slot.unset).toArray) n (am_l0 n args) r := by
  have hc' : ∀ v ∈ args.map (am_v r), v.category = 1 := by
    intro v hv
    obtain ⟨u, hu, rfl⟩ := List.mem_map.mp hv
    rw [am_v_cat]
    exact hc u hu
  refine ⟨_, lv_entry (args.map (am_v r)) (by rw [am_sl_len _ hc', List.length_map]; exact hn), fun k v hk => ?_⟩
  have hk2 : args[k]? = some v := by
    unfold am_l0 at hk
    by_cases hl : k < (args.map some).length
    · rw [List.getElem?_append_left hl, List.getElem?_map] at hk
      cases ha : args[k]? with
      | none => rw [ha] at hk; cases hk
      | some x => rw [ha] at hk; exact congrArg some (Option.some.inj (Option.some.inj hk))
    · rw [List.getElem?_append_right (by omega), List.getElem?_replicate] at hk
      split at hk <;> cases hk
  refine ⟨?_, hc v (List.mem_of_getElem? hk2)⟩
  have h1 := am_lvargs (args.map (am_v r)) 0 hc' k (am_v r v) (by rw [List.getElem?_map, hk2]; rfl)
  rwa [Nat.zero_add] at h1
/-- a contract out of a walk from the entry -/
theorem am_Met.of {M : am_M} {args : List Value} {h : am_H} {nc ns : Nat} {Z : Option Value → am_H → Prop} (hy : plainFor M.1 = true) (hh : h.length ≤ 1000) (hc : ∀ v ∈ args, v.category = 1) (hn : args.length ≤ M.2.2.1) (k : am_Ok M none Z nc ns 0 (am_l0 M.2.2.1 args) [] h) : am_Met M args h nc ns Z := by
  intro l D cy r sz
  refine va_MetF (cc := M.2.1) (maxL := M.2.2.1) (ret := M.2.2.2.1) hy rfl ?_
  intro p e s m as below meth c s₁ B hml hv
  obtain ⟨rfl, hsz, hZ, hK⟩ := hv
  have hts := atoms_spec (ws := am_ws M) B.pre
  have hlocks := B.notSynchronized
  rw [lg_entry_eq]
  subst hsz
  have X : am_X M none p { frames := M.2.2.2.2.1, cells := nc, slots := ns, locals := M.2.2.2.2.2 } s m (args.map (am_v r)).toArray meth c D cy (am_A r h s.heap.size) r (am_P0 h) :=
    ⟨B.exec, B.bytes, hml, findClass_of_methodNamed B.named, fun w hw => hts w (List.mem_cons_of_mem _ hw), hK, fun q hq => Or.inr hq, rfl, rfl, fun hi => by rw [(name_of_methodNamed B.named B.method).1]; exact hi, trivial⟩
  refine k p l e _ s m _ below meth c _ D cy (am_A r h s.heap.size) r (am_P0 h) h.length X ?_ r s.heap [] 0 0 _ hZ va_S.rf (am_entry hc hn) ⟨fun _ _ => rfl, fun i hi => ?_, rfl⟩ ⟨by show 0 + nc ≤ nc; omega, by show 0 + ns ≤ ns; omega⟩
  · intro v h' r' H locs cells slots lc pc hz hZ' hS hE hcl hsl hri
    refine W.widen hcl hsl ?_
    have hq : ∀ (t : State), t.heap = H → am_Qc D cy r h s.heap.size Z (args.map (am_v r)).toArray s (.returned (v.map (am_v r'))) t := fun t ht => ⟨⟨v, h', r', hz, rfl, hE, by rw [ht]; exact hZ'⟩, hS.F ht⟩
    cases v with
    | none =>
      obtain ⟨g1, g2⟩ := hri
      exact W.vret B.exec B.bytes (by rw [B.returns]; exact g2) (fun t ht hW => hq t ht) hS.2.2 g1
    | some w =>
      cases w with
      | int x =>
        obtain ⟨g1, ty, g2, g3⟩ := hri
        exact W.zret B.exec B.bytes (by rw [B.returns]; exact g2) g3 (fun t ht hW => hq t ht) hS.2.2 g1
      | ref a =>
        obtain ⟨g1, g2, C, g3⟩ := hri
        exact W.aret B.exec B.bytes (by rw [B.returns]; exact g3) (Or.inl ⟨C, rfl⟩) (Or.inr ⟨_, rfl⟩) (fun t ht hW => hq t ht) hS.2.2 g1
      | null =>
        obtain ⟨g1, g2, C, g3⟩ := hri
        exact W.aret B.exec B.bytes (by rw [B.returns]; exact g3) (Or.inl ⟨C, rfl⟩) (Or.inl rfl) (fun t ht hW => hq t ht) hS.2.2 g1
      | _ => obtain ⟨-, g2 | ⟨_, g2⟩, -⟩ := hri <;> cases g2
  · rcases hi with ⟨c, hi⟩ | hi
    · rw [hi]; exact fun z => by cases z
    · subst hi
      have : h[1000]? = none := List.getElem?_eq_none hh
      rw [this]
      exact fun z => by cases z
theorem am_Met.mono {M : am_M} {args : List Value} {h : am_H} {nc ns : Nat} {Z Z' : Option Value → am_H → Prop} (k : am_Met M args h nc ns Z) (hz : ∀ v h', Z v h' → Z' v h') : am_Met M args h nc ns Z' := by
  intro l D cy r sz p e ha hc hk s m as below hf happ hP hT
  obtain ⟨kk, o, h1, h2, h3, ⟨⟨⟨v, h', r', z1, z2⟩, hF⟩, hL⟩⟩ := k l D cy r sz p e ha hc hk s m as below hf happ hP hT
  exact ⟨kk, o, h1, h2, h3, ⟨⟨⟨v, h', r', hz v h' z1, z2⟩, hF⟩, hL⟩⟩
