section AMC
variable {M M' : am_M} {sc : Option (Nat × (Nat → Int32))} {Z Zc : Option Value → am_H → Prop} {nc ns n1 s1 pc : Nat} {ls : List (Option Value)} {st st0 : List Value} {h hc : am_H} {is : List Nat}
theorem am_callcore (hsub : is.map (fun i => h[i]?) = hc.map (fun o => some (o.map (am_rn is)))) (hnd : va_nd is = true) (hlen : h.length ≤ 1000) (hil : is.length ≤ 1000) (hfr : am_fr is hc h ls st = true) (hn : n1 ≤ nc ∧ s1 ≤ ns)
    (hok : ∀ v h1, Zc v h1 → am_okh hc.length h1 = true ∧ ∀ w, v = some w → am_okv hc.length w = true)
    (run : ∀ {p : Program} {l : Launch} {e : Env} {R : Room} {s : State} {m : MethodId} {args : Array Value} {below : List Frame} {meth : Method} {c : Code} {H : Heap} {locs : List Loc} {cells slots : Nat} {lc : Array Slot} {D : va_G} {cy : Nat → ClassId} {A : Nat → Prop} {r0 : Nat → Nat} {P0 : Nat → Prop} (r : Nat → Nat), am_X M sc p R s m args meth c D cy A r0 P0 → am_Z D cy r h A H → lc.size = M.2.2.1 → cells + n1 ≤ R.cells ∧ slots + s1 ≤ R.slots →
      ∃ a0, va_Run p l e R s m args below meth c H locs cells slots n1 s1 (F0 m pc lc (st0.map (am_v r))) (st.map (am_v r)) (am_Qc D cy (fun j => r (am_ix is j)) hc H.size Zc a0) (am_A (fun j => r (am_ix is j)) hc H.size))
    (k : ∀ v h1, Zc v h1 → h1.length = hc.length → am_Ok M sc Z (nc - n1) (ns - s1) (pc + 3) ls ((v.map (am_v (am_ix is))).toList ++ st) (am_put is (h1.map (Option.map (am_rn is))) h)) : am_Ok M sc Z nc ns pc ls st0 h := by
  intro p l e R s m args below meth c Q D cy A r0 P0 N0 X hR r H locs cells slots lc hZ hS hL hE hN
  obtain ⟨hN1, hN2⟩ := hN
  obtain ⟨hn1, hn2⟩ := hn
  obtain ⟨hl, hget⟩ := am_sub_get hsub
  have hinj := va_nd_inj is hnd
  obtain ⟨lv, hlv, hlm⟩ := id hL
  obtain ⟨a0, hrun⟩ := run (l := l) (e := e) (below := below) (locs := locs) (cells := cells) (slots := slots) r X hZ hlv.1 ⟨by omega, by omega⟩
  intro T hT XS
  obtain ⟨v0, st₀, t, T', L, h0, X2, hLf, e1, e2, ⟨⟨v, h1, r1c, hz, hv, hE1, hZ1⟩, hF⟩, go⟩ := hrun T hT XS
  have hv0 : v0 = v.map (am_v r1c) := by cases hv; rfl
  subst hv0
  obtain ⟨hok1, hok2⟩ := hok v h1 hz
  have hl1 : h1.length = hc.length := hE1.2.2
  rw [← e1] at hZ1
  have hF2 : H.size ≤ T'.heap.size ∧ ∀ q : Nat, q < H.size → ¬ am_A (fun j => r (am_ix is j)) hc H.size q → T'.heap[q]? = H[q]? := by
    obtain ⟨f1, f2⟩ := hF
    rw [h0] at f1 f2
    exact ⟨by rw [e1]; exact f1, fun q g1 g2 => by rw [e1]; exact f2 q g1 g2⟩
  -- the new addresses
  obtain ⟨r1, hr1, hr2⟩ : ∃ r1 : Nat → Nat, (∀ k i, is[k]? = some i → r1 i = r1c k) ∧ ∀ i, i ∉ is → r1 i = r i := by
    classical
    refine ⟨fun i => if hx : ∃ k, is[k]? = some i then r1c hx.choose else r i, fun k i hk => ?_, fun i hi => ?_⟩
    · have hx : ∃ k, is[k]? = some i := ⟨k, hk⟩
      simp only [dif_pos hx]
      rw [hinj _ k i hx.choose_spec hk]
    · have hx : ¬ ∃ k, is[k]? = some i := fun ⟨k, hk⟩ => hi (List.mem_of_getElem? hk)
      simp only [dif_neg hx]
  have hisb : ∀ (k i : Nat), is[k]? = some i → ∃ o, hc[k]? = some o ∧ h[i]? = some (o.map (am_rn is)) := by
    intro k i hk
    have hk2 : k < hc.length := by rw [← hl]; exact (List.getElem?_eq_some_iff.mp hk).1
    obtain ⟨o, ho⟩ : ∃ o, hc[k]? = some o := ⟨_, List.getElem?_eq_getElem hk2⟩
    obtain ⟨i', h3, h4⟩ := hget k o ho
    have : i' = i := Option.some.inj (h3.symm.trans hk)
    subst this
    exact ⟨o, ho, h4⟩
  have h1000 : 1000 ∉ is := fun z => by
    obtain ⟨k, hk⟩ := List.getElem?_of_mem z
    obtain ⟨o, -, h4⟩ := hisb k 1000 hk
    have := (List.getElem?_eq_some_iff.mp h4).1
    omega
  -- where nothing is new, the addresses stay
  have hstay : ∀ (k i : Nat), is[k]? = some i → hc[k]? ≠ some none → r1 i = r i := by
    intro k i hk hne
    obtain ⟨o, ho, -⟩ := hisb k i hk
    cases o with
    | none => exact absurd ho hne
    | some c0 =>
      rw [hr1 k i hk, hE1.1 k (Or.inl ⟨c0, ho⟩)]
      simp only [am_ix_at hk]
  have hkeep : ∀ i : Nat, (am_nh i h = true ∧ am_nl i ls = true ∧ am_ns i st = true → False) → r1 i = r i := by
    intro i hi
    by_cases hm : i ∈ is
    · obtain ⟨k, hk⟩ := List.getElem?_of_mem hm
      exact hstay k i hk (fun z => hi (am_fr_at is hc h ls st hfr k i hk z))
    · exact hr2 i hm
  have hix : ∀ j, j < hc.length ∨ j = 1000 → r1 (am_ix is j) = r1c j := by
    intro j hj
    rcases hj with hj | hj
    · have hj2 : j < is.length := by rw [hl]; exact hj
      have hk : is[j]? = some is[j] := List.getElem?_eq_getElem hj2
      rw [am_ix_at hk, hr1 j _ hk]
    · subst hj
      have hix0 : am_ix is 1000 = 1000 := by
        unfold am_ix
        rw [List.getD_eq_getElem?_getD]
        rw [List.getElem?_eq_none hil]
        rfl
      rw [hix0, hr2 1000 h1000, hE1.1 1000 (Or.inr rfl)]
      simp only [hix0]
  have hlenp := am_put_len is (h1.map (Option.map (am_rn is))) h
  have hin : ∀ (k i : Nat), is[k]? = some i → ∃ o, h1[k]? = some o ∧ (am_put is (h1.map (Option.map (am_rn is))) h)[i]? = some (o.map (am_rn is)) := by
    intro k i hk
    have hk2 : k < h1.length := by rw [hl1, ← hl]; exact (List.getElem?_eq_some_iff.mp hk).1
    obtain ⟨o, ho⟩ : ∃ o, h1[k]? = some o := ⟨_, List.getElem?_eq_getElem hk2⟩
    obtain ⟨o2, -, h4⟩ := hisb k i hk
    exact ⟨o, ho, am_put_in is _ h hinj k i _ hk (by rw [List.getElem?_map, ho]; rfl) (List.getElem?_eq_some_iff.mp h4).1⟩
  have hAin : ∀ q, am_A (fun j => r (am_ix is j)) hc H.size q → A q := by
    intro q hq
    rcases hq with ⟨k, c0, hk, rfl⟩ | hq
    · obtain ⟨i, h3, h4⟩ := hget k _ hk
      simp only [am_ix_at h3]
      exact hZ.2.2 i _ h4
    · exact X.2.2.2.2.2.2.1 q (Nat.le_trans hS.1 hq)
  have hold : ∀ (i : Nat) (c0 : am_C), i ∉ is → h[i]? = some (some c0) → r i < H.size ∧ ¬ am_A (fun j => r (am_ix is j)) hc H.size (r i) := by
    intro i c0 hi hc0
    have hlt := (hZ.1 i c0 hc0).lt
    refine ⟨hlt, fun hq => ?_⟩
    rcases hq with ⟨k, c1, hk, he⟩ | hq
    · obtain ⟨i', h3, h4⟩ := hget k _ hk
      simp only [am_ix_at h3] at he
      have := hZ.2.1 i' i _ _ h4 hc0 he
      subst this
      exact hi (List.mem_of_getElem? h3)
    · have hlt2 : r i < H.size := hlt
      omega
  -- the world behind the call
  have hZ2 : am_Z D cy r1 (am_put is (h1.map (Option.map (am_rn is))) h) A T'.heap := by
    refine ⟨fun i c0 hi => ?_, fun i j c0 d0 hi hj he => ?_, fun i c0 hi => ?_⟩
    · by_cases hm : i ∈ is
      · obtain ⟨k, hk⟩ := List.getElem?_of_mem hm
        obtain ⟨o, ho, hp⟩ := hin k i hk
        rw [hi] at hp
        cases o with
        | none => cases hp
        | some c1 =>
          have ec : c0 = am_rn is c1 := Option.some.inj (Option.some.inj hp)
          rw [ec, am_e_rn, hr1 k i hk, am_okc_eq (r := r1c) (List.all_eq_true.mp hok1 _ (List.mem_of_getElem? ho)) hix]
          exact hZ1.1 k c1 ho
      · rw [am_put_out is _ h i hm] at hi
        obtain ⟨g1, g2⟩ := hold i c0 hm hi
        have ec : am_e cy r1 c0 = am_e cy r c0 := by
          refine am_e_eq (fun j => ⟨fun o eo hmem => hkeep j ?_, fun l0 el hmem => hkeep j ?_⟩)
          · rintro ⟨b1, -, -⟩
            have b2 := List.all_eq_true.mp b1 _ (List.mem_of_getElem? hi)
            subst eo
            have b3 := List.all_eq_true.mp (show o.2.all (am_nv j) = true from b2) _ hmem
            exact am_nv_ne b3 j rfl rfl
          · rintro ⟨b1, -, -⟩
            have b2 := List.all_eq_true.mp b1 _ (List.mem_of_getElem? hi)
            subst el
            have b3 := List.all_eq_true.mp (show l0.all _ = true from b2) _ hmem
            simp at b3
        rw [ec, hr2 i hm]
        exact (hZ.1 i c0 hi).kept (hF2.2 (r i) g1 g2)
    · by_cases hm : i ∈ is <;> by_cases hm2 : j ∈ is
      · obtain ⟨k, hk⟩ := List.getElem?_of_mem hm
        obtain ⟨k2, hk2⟩ := List.getElem?_of_mem hm2
        obtain ⟨o, ho, hp⟩ := hin k i hk
        obtain ⟨o2, ho2, hp2⟩ := hin k2 j hk2
        rw [hi] at hp
        rw [hj] at hp2
        cases o with
        | none => cases hp
        | some c1 =>
          cases o2 with
          | none => cases hp2
          | some c2 =>
            rw [hr1 k i hk, hr1 k2 j hk2] at he
            have := hZ1.2.1 k k2 c1 c2 ho ho2 he
            subst this
            exact Option.some.inj (hk.symm.trans hk2)
      · exfalso
        obtain ⟨k, hk⟩ := List.getElem?_of_mem hm
        obtain ⟨o, ho, hp⟩ := hin k i hk
        rw [hi] at hp
        rw [am_put_out is _ h j hm2] at hj
        cases o with
        | none => cases hp
        | some c1 =>
          rw [hr1 k i hk, hr2 j hm2] at he
          have := hZ1.2.2 k c1 ho
          rw [he] at this
          exact (hold j d0 hm2 hj).2 this
      · exfalso
        obtain ⟨k, hk⟩ := List.getElem?_of_mem hm2
        obtain ⟨o, ho, hp⟩ := hin k j hk
        rw [hj] at hp
        rw [am_put_out is _ h i hm] at hi
        cases o with
        | none => cases hp
        | some c1 =>
          rw [hr1 k j hk, hr2 i hm] at he
          have := hZ1.2.2 k c1 ho
          rw [← he] at this
          exact (hold i c0 hm hi).2 this
      · rw [am_put_out is _ h i hm] at hi
        rw [am_put_out is _ h j hm2] at hj
        rw [hr2 i hm, hr2 j hm2] at he
        exact hZ.2.1 i j _ _ hi hj he
    · by_cases hm : i ∈ is
      · obtain ⟨k, hk⟩ := List.getElem?_of_mem hm
        obtain ⟨o, ho, hp⟩ := hin k i hk
        rw [hi] at hp
        cases o with
        | none => cases hp
        | some c1 =>
          rw [hr1 k i hk]
          exact hAin _ (hZ1.2.2 k c1 ho)
      · rw [am_put_out is _ h i hm] at hi
        rw [hr2 i hm]
        exact hZ.2.2 i c0 hi
  have hE2 : am_E P0 r0 N0 r1 (am_put is (h1.map (Option.map (am_rn is))) h) := by
    refine ⟨fun i hi => ?_, fun i hi => ?_, by rw [hlenp]; exact hE.2.2⟩
    · rw [← hE.1 i hi]
      by_cases hm : i ∈ is
      · obtain ⟨k, hk⟩ := List.getElem?_of_mem hm
        refine hstay k i hk (fun z => ?_)
        obtain ⟨o, ho, h4⟩ := hisb k i hk
        have : o = none := Option.some.inj (ho.symm.trans z)
        subst this
        exact hE.2.1 i hi h4
      · exact hr2 i hm
    · by_cases hm : i ∈ is
      · obtain ⟨k, hk⟩ := List.getElem?_of_mem hm
        obtain ⟨o, ho, hp⟩ := hin k i hk
        obtain ⟨o2, ho2, h4⟩ := hisb k i hk
        rw [hp]
        intro z
        cases o with
        | some c1 => cases z
        | none =>
          cases o2 with
          | none => exact hE.2.1 i hi h4
          | some c2 => exact hE1.2.1 k (Or.inl ⟨c2, ho2⟩) ho
      · rw [am_put_out is _ h i hm]
        exact hE.2.1 i hi
  have hS2 : va_S A s.heap T'.heap (locs ++ L) := by
    refine ⟨Nat.le_trans hS.1 hF2.1, fun q g1 g2 => ?_, fun q hq => ?_⟩
    · rw [hF2.2 q (Nat.lt_of_lt_of_le g1 hS.1) (fun z => g2 (hAin q z))]
      exact hS.2.1 q g1 g2
    · rcases List.mem_append.mp hq with hq | hq
      · exact hS.2.2 q hq
      · exact hAin _ (hLf q hq)
  have hst : st.map (am_v r1) = st.map (am_v r) := List.map_congr_left (fun v hv => am_v_eq (fun i ei => hkeep i (by
    rintro ⟨-, -, b⟩
    exact am_nv_ne (List.all_eq_true.mp b v hv) i ei rfl)))
  have hL2 : am_L lc M.2.2.1 ls r1 := ⟨lv, hlv, fun j v hj => by
    rw [am_v_eq (r := r) (fun i ei => hkeep i (by
      rintro ⟨-, b, -⟩
      exact am_nv_ne (List.all_eq_true.mp b _ (List.mem_of_getElem? hj)) i ei rfl))]
    exact hlm j v hj⟩
  have w := k v h1 hz hl1 p l e R s m args below meth c Q D cy A r0 P0 N0 X hR r1 T'.heap (locs ++ L) (cells + n1) (slots + s1) lc hZ2 hS2 hL2 hE2 ⟨by omega, by omega⟩
  have hret : ((v.map (am_v (am_ix is))).toList ++ st).map (am_v r1) = (v.map (am_v r1c)).toList ++ st.map (am_v r) := by
    rw [List.map_append, hst]
    congr 1
    cases v with
    | none => rfl
    | some u =>
      show [am_v r1 (am_v (am_ix is) u)] = [am_v r1c u]
      rw [am_v_v, am_okv_eq (r := r1c) (hok2 u rfl) hix]
  rw [hret] at w
  obtain ⟨t2, a1, b1⟩ := w T' rfl X2
  exact ⟨t2, go t2 a1, b1⟩
/-- a call's static facts: index, callee, number of arguments -/
def am_cb (M : am_M) (idx : Nat) (M' : am_M) (n : Nat) : Prop := Cond.code M'.1 M'.2.1 M'.2.2.1 M'.2.2.2.1 ∈ am_T ∧ Cond.initialized M'.1.cls ∈ am_T ∧ (M'.1.cls ≠ "java/lang/invoke/MethodHandle" ∧ M'.1.cls ≠ "java/lang/invoke/VarHandle" ∧ (parseMethodDescriptor M'.1.desc).map (fun d => d.parameters.length) = some n) ∧ M'.2.2.2.2.1 + 1 ≤ M.2.2.2.2.1 ∧ 8 + (M'.2.2.1 + 11) + M'.2.2.2.2.2 ≤ M.2.2.2.2.2
theorem am_good_T : ∀ w ∈ am_T, goodWord w = true := fun w hw => (List.mem_filter.mp hw).2
theorem am_goodIn (hc : Cond.code M'.1 M'.2.1 M'.2.2.1 M'.2.2.2.1 ∈ am_T) : GoodIn am_T (am_ws M') := by
  intro w hw
  rcases List.mem_cons.mp hw with rfl | hw
  · exact ⟨hc, good_of_word (am_good_T _ hc)⟩
  · exact ⟨hw, good_of_word (am_good_T _ hw)⟩
theorem am_blind {D : va_G} {cy : Nat → ClassId} {r : Nat → Nat} {args : List Value} {h : am_H} {sz : Nat} : FrameBlind (am_Pc D cy r args h sz) := fun a U g mk q => by
  obtain ⟨q0, q1, q2, q3⟩ := q
  exact ⟨q0, q1, q2, am_K.same (s := U) (U := U.calling g mk a) rfl q3⟩
theorem am_cat_map (r : Nat → Nat) (st : List Value) : ((st.map (am_v r)).map fun v => v.category).sum = (st.map fun v => v.category).sum := by
  rw [List.map_map]
  congr 1
  exact List.map_congr_left (fun v _ => am_v_cat r v)
theorem am_pre {D : va_G} {cy : Nat → ClassId} {r : Nat → Nat} {A : Nat → Prop} {H : Heap} {s : State} {args' as : List Value} (hsub : is.map (fun i => h[i]?) = hc.map (fun o => some (o.map (am_rn is)))) (hnd : va_nd is = true) (z : am_Z D cy r h A H) (hK : am_K D cy s) (ha : args'.map (am_v (am_ix is)) = as) : ∀ U : State, U.heap = H → s.WarmedH U.vm → am_Pc D cy (fun j => r (am_ix is j)) args' hc H.size (as.map (am_v r)).toArray U := by
  intro U hU hW
  refine ⟨?_, by rw [hU], by rw [hU]; exact z.sub hsub hnd _, hK.warm hW⟩
  rw [← ha, List.map_map]
  congr 1
  exact List.map_congr_left (fun v _ => am_v_v r (am_ix is) v)
/-- invokevirtual -/
theorem am_callV {idx n b ci : Nat} {fs args' As : List Value} {T : u_T} {N : Nat} (hd : decode M.2.1 pc = .ok (.invokevirtual idx, 3)) (cb : am_cb M idx M' n) (hl : Cond.methodLink M.1.cls idx M'.1 ∈ am_T) (hi : Cond.instanceMethod M'.1 ∈ am_T) (hsel : Cond.selects M'.1.cls M'.1 M'.1 ∈ am_T) (hcl : vwCl[ci]? = some (M'.1.cls, T, N))
    (hM : am_Met M' args' hc n1 s1 Zc) (hb : h[b]? = some (some (.inr (.inr (ci, fs))))) (ha : args'.map (am_v (am_ix is)) = .ref b :: As) (hAs : As.length = n) (hst0 : As.reverse ++ .ref b :: st = st0) (hcat : (st.map fun v => v.category).sum ≤ 8)
    (hsub : is.map (fun i => h[i]?) = hc.map (fun o => some (o.map (am_rn is)))) (hnd : va_nd is = true) (hlen : h.length ≤ 1000) (hil : is.length ≤ 1000) (hfr : am_fr is hc h ls st = true) (hn : n1 ≤ nc ∧ s1 ≤ ns)
    (hok : ∀ v h1, Zc v h1 → am_okh hc.length h1 = true ∧ ∀ w, v = some w → am_okv hc.length w = true)
    (k : ∀ v h1, Zc v h1 → h1.length = hc.length → am_Ok M sc Z (nc - n1) (ns - s1) (pc + 3) ls ((v.map (am_v (am_ix is))).toList ++ st) (am_put is (h1.map (Option.map (am_rn is))) h)) : am_Ok M sc Z nc ns pc ls st0 h := by
  obtain ⟨c1, c2, c3, c4, c5⟩ := cb
  subst hst0
  refine am_callcore hsub hnd hlen hil hfr hn hok (fun {p l e R s m args below meth c H locs cells slots lc D cy A r0 P0} r X hZ hlc hf => ?_) k
  obtain ⟨ws, hP, hD, cov⟩ := hZ.toW
  obtain ⟨q0, hq0⟩ := cov b _ hb
  refine ⟨_, va_runV (own := M.1.cls) (C := M'.1.cls) (nL := M.2.2.1) (As := As.map (am_v r)) (b := r b) (bytes := M'.2.1) (maxL := M'.2.2.1) (ret := M'.2.2.2.1) (n := n) ⟨X.1, X.2.1, X.2.2.1, X.2.2.2.1, X.2.2.2.2.1⟩ (hM l D cy (fun j => r (am_ix is j)) H.size)
    ⟨callB_of n X.2.2.2.2.1 (am_goodIn c1) rfl rfl rfl (X.2.2.2.2.1 _ c2) (X.2.2.2.2.1 _ hl) c3 ⟨by rw [X.2.2.2.2.2.2.2.1]; exact c4, by rw [X.2.2.2.2.2.2.2.2.1]; exact c5⟩, X.2.2.2.2.1 _ hi, X.2.2.2.2.1 _ hsel⟩
    ⟨am_blind, va_recv X.2.2.2.2.2.1.1 hP hcl hq0, am_pre (as := .ref b :: As) hsub hnd hZ X.2.2.2.2.2.1 ha⟩ rfl (by rw [List.length_map]; exact hAs) hlc (by simp [am_v]) ?_ hd hf⟩
  rw [am_cat_map]
  show 2 * 0 + _ ≤ 8
  omega
/-- invokestatic -/
theorem am_callS {idx n : Nat} {args' As : List Value} (hd : decode M.2.1 pc = .ok (.invokestatic idx, 3)) (cb : am_cb M idx M' n) (hl : Cond.methodLink M.1.cls idx M'.1 ∈ am_T) (hs : Cond.static M'.1 ∈ am_T)
    (hM : am_Met M' args' hc n1 s1 Zc) (ha : args'.map (am_v (am_ix is)) = As) (hAs : As.length = n) (hst0 : As.reverse ++ st = st0) (hcat : (st.map fun v => v.category).sum ≤ 8)
    (hsub : is.map (fun i => h[i]?) = hc.map (fun o => some (o.map (am_rn is)))) (hnd : va_nd is = true) (hlen : h.length ≤ 1000) (hil : is.length ≤ 1000) (hfr : am_fr is hc h ls st = true) (hn : n1 ≤ nc ∧ s1 ≤ ns)
    (hok : ∀ v h1, Zc v h1 → am_okh hc.length h1 = true ∧ ∀ w, v = some w → am_okv hc.length w = true)
    (k : ∀ v h1, Zc v h1 → h1.length = hc.length → am_Ok M sc Z (nc - n1) (ns - s1) (pc + 3) ls ((v.map (am_v (am_ix is))).toList ++ st) (am_put is (h1.map (Option.map (am_rn is))) h)) : am_Ok M sc Z nc ns pc ls st0 h := by
  obtain ⟨c1, c2, c3, c4, c5⟩ := cb
  subst hst0
  refine am_callcore hsub hnd hlen hil hfr hn hok (fun {p l e R s m args below meth c H locs cells slots lc D cy A r0 P0} r X hZ hlc hf => ?_) k
  refine ⟨_, va_runS (own := M.1.cls) (nL := M.2.2.1) (As := As.map (am_v r)) (bytes := M'.2.1) (maxL := M'.2.2.1) (ret := M'.2.2.2.1) (n := n) ⟨X.1, X.2.1, X.2.2.1, X.2.2.2.1, X.2.2.2.2.1⟩ (hM l D cy (fun j => r (am_ix is j)) H.size)
    ⟨callB_of n X.2.2.2.2.1 (am_goodIn c1) rfl rfl rfl (X.2.2.2.2.1 _ c2) (X.2.2.2.2.1 _ hl) c3 ⟨by rw [X.2.2.2.2.2.2.2.1]; exact c4, by rw [X.2.2.2.2.2.2.2.2.1]; exact c5⟩, X.2.2.2.2.1 _ hs⟩
    ⟨am_blind, am_pre (as := As) hsub hnd hZ X.2.2.2.2.2.1 ha⟩ rfl (by rw [List.length_map]; exact hAs) hlc (by simp) ?_ hd hf⟩
  rw [am_cat_map]
  show 2 * 0 + _ ≤ 8
  omega
/-- invokestatic of a nest mate's private method -/
theorem am_callSN {idx n : Nat} {host : String} {args' As : List Value} (hd : decode M.2.1 pc = .ok (.invokestatic idx, 3)) (cb : am_cb M idx M' n) (hl : Cond.methodLinkNest M.1.cls idx M'.1 host ∈ am_N) (hs : Cond.static M'.1 ∈ am_T)
    (hM : am_Met M' args' hc n1 s1 Zc) (ha : args'.map (am_v (am_ix is)) = As) (hAs : As.length = n) (hst0 : As.reverse ++ st = st0) (hcat : (st.map fun v => v.category).sum ≤ 8)
    (hsub : is.map (fun i => h[i]?) = hc.map (fun o => some (o.map (am_rn is)))) (hnd : va_nd is = true) (hlen : h.length ≤ 1000) (hil : is.length ≤ 1000) (hfr : am_fr is hc h ls st = true) (hn : n1 ≤ nc ∧ s1 ≤ ns)
    (hok : ∀ v h1, Zc v h1 → am_okh hc.length h1 = true ∧ ∀ w, v = some w → am_okv hc.length w = true)
    (k : ∀ v h1, Zc v h1 → h1.length = hc.length → am_Ok M sc Z (nc - n1) (ns - s1) (pc + 3) ls ((v.map (am_v (am_ix is))).toList ++ st) (am_put is (h1.map (Option.map (am_rn is))) h)) : am_Ok M sc Z nc ns pc ls st0 h := by
  obtain ⟨c1, c2, c3, c4, c5⟩ := cb
  subst hst0
  refine am_callcore hsub hnd hlen hil hfr hn hok (fun {p l e R s m args below meth c H locs cells slots lc D cy A r0 P0} r X hZ hlc hf => ?_) k
  refine ⟨_, va_runSN (own := M.1.cls) (host := host) (nL := M.2.2.1) (As := As.map (am_v r)) (bytes := M'.2.1) (maxL := M'.2.2.1) (ret := M'.2.2.2.1) (n := n) ⟨X.1, X.2.1, X.2.2.1, X.2.2.2.1, X.2.2.2.2.1⟩ (hM l D cy (fun j => r (am_ix is j)) H.size)
    ⟨va_cnB n X.2.2.2.2.1 (am_goodIn c1) rfl rfl rfl (X.2.2.2.2.2.1.2.1 _ hl) (X.2.2.2.2.1 _ c2) c3 ⟨by rw [X.2.2.2.2.2.2.2.1]; exact c4, by rw [X.2.2.2.2.2.2.2.2.1]; exact c5⟩, X.2.2.2.2.1 _ hs, trivial⟩
    ⟨am_blind, am_pre (as := As) hsub hnd hZ X.2.2.2.2.2.1 ha⟩ rfl (by rw [List.length_map]; exact hAs) hlc (by simp) ?_ hd hf⟩
  rw [am_cat_map]
  show 2 * 0 + _ ≤ 8
  omega
/-- invokespecial of a constructor -/
theorem am_callI {idx n b : Nat} {args' As : List Value} (hd : decode M.2.1 pc = .ok (.invokespecial idx, 3)) (cb : am_cb M idx M' n) (hret : M'.2.2.2.1 = none) (hy1 : M'.1.name = "<init>") (hl : Cond.methodLink M.1.cls idx M'.1 ∈ am_T) (hi : Cond.instanceMethod M'.1 ∈ am_T)
    (hM : am_Met M' args' hc n1 s1 Zc) (ha : args'.map (am_v (am_ix is)) = .ref b :: As) (hAs : As.length = n) (hst0 : As.reverse ++ .ref b :: st = st0) (hcat : (st.map fun v => v.category).sum ≤ 8)
    (hsub : is.map (fun i => h[i]?) = hc.map (fun o => some (o.map (am_rn is)))) (hnd : va_nd is = true) (hlen : h.length ≤ 1000) (hil : is.length ≤ 1000) (hfr : am_fr is hc h ls st = true) (hn : n1 ≤ nc ∧ s1 ≤ ns)
    (hok : ∀ v h1, Zc v h1 → am_okh hc.length h1 = true ∧ ∀ w, v = some w → am_okv hc.length w = true)
    (k : ∀ v h1, Zc v h1 → h1.length = hc.length → am_Ok M sc Z (nc - n1) (ns - s1) (pc + 3) ls ((v.map (am_v (am_ix is))).toList ++ st) (am_put is (h1.map (Option.map (am_rn is))) h)) : am_Ok M sc Z nc ns pc ls st0 h := by
  obtain ⟨c1, c2, c3, c4, c5⟩ := cb
  subst hst0
  refine am_callcore hsub hnd hlen hil hfr hn hok (fun {p l e R s m args below meth c H locs cells slots lc D cy A r0 P0} r X hZ hlc hf => ?_) k
  refine ⟨_, va_runI (own := M.1.cls) (nL := M.2.2.1) (As := As.map (am_v r)) (b := r b) (bytes := M'.2.1) (maxL := M'.2.2.1) (n := n) ⟨X.1, X.2.1, X.2.2.1, X.2.2.2.1, X.2.2.2.2.1⟩ (hM l D cy (fun j => r (am_ix is j)) H.size)
    ⟨callB_of n X.2.2.2.2.1 (am_goodIn c1) (by rw [am_ws, hret]) rfl rfl (X.2.2.2.2.1 _ c2) (X.2.2.2.2.1 _ hl) c3 ⟨by rw [X.2.2.2.2.2.2.2.1]; exact c4, by rw [X.2.2.2.2.2.2.2.2.1]; exact c5⟩, hy1, X.2.2.2.2.1 _ hi⟩
    ⟨am_blind, am_pre (as := .ref b :: As) hsub hnd hZ X.2.2.2.2.2.1 ha⟩ rfl (by rw [List.length_map]; exact hAs) hlc (by simp [am_v]) ?_ hd hf⟩
  rw [am_cat_map]
  show 2 * 0 + _ ≤ 8
  omega
/-- Object.<init> -/
theorem am_objInit {idx a : Nat} (hd : decode M.2.1 pc = .ok (.invokespecial idx, 3)) (hl : Cond.methodLink M.1.cls idx objectInit ∈ am_T) (hi : Cond.instanceMethod objectInit ∈ am_T) (hc1 : Cond.code objectInit ⟨#[0xb1]⟩ 1 none ∈ am_T) (hcat : (st.map fun v => v.category).sum ≤ 8) (hfr : 1 ≤ M.2.2.2.2.1) (hlo : 20 ≤ M.2.2.2.2.2) (k : am_Ok M sc Z nc ns (pc + 3) ls st h) : am_Ok M sc Z nc ns pc ls (.ref a :: st) h := by
  intro p l e R s m args below meth c Q D cy A r0 P0 N0 X hR r H locs cells slots lc hZ hS hL hE hN
  obtain ⟨lv, hlv, -⟩ := id hL
  refine W.objInit (g := F0 m pc lc (.ref (r a) :: st.map (am_v r))) X.1 X.2.1 X.2.2.2.1 (X.2.2.2.2.1 _ hl) (X.2.2.2.2.1 _ hi) (X.2.2.2.2.1 _ hc1) rfl (by rw [X.2.2.1]; exact hlv.1) rfl hd (by rw [X.2.2.2.2.2.2.2.1]; exact hfr) ?_ (k p l e R s m args below meth c Q D cy A r0 P0 N0 X hR r H locs cells slots lc hZ hS hL hE hN)
  rw [am_cat_map, X.2.2.2.2.2.2.2.2.1]
  show 2 * 0 + _ + 12 ≤ _
  omega
end AMC
