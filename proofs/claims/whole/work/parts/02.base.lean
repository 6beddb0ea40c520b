/-! THE ABSTRACT MACHINE: a world is a list of places; a place is empty, or holds an int array, an array of yards, an object; a reference is a place's number -/
def am_T : List Cond := lw_tbl.filter goodWord
def am_N : List Cond := [.fieldLinkNest RX1 61 RX3 "locomotiveCount" "I" RX4, .fieldLinkNest RX4 42 RX3 "locomotiveCount" "I" RX4, .fieldLinkNest RX1 157 RX3 "endA" "I" RX4, .fieldLinkNest RX4 99 RX3 "endA" "I" RX4, .fieldLinkNest RX4 111 RX0 "count" "I" RX4, .methodLinkNest RX3 87 yX4_endOf RX4, .methodLinkNest RX1 184 yX4_reverseOf RX4]
theorem am_T_in {w : Cond} (i : Nat) (h : lw_tbl[i]? = some w) (hg : goodWord w = true) : w ∈ am_T := List.mem_filter.mpr ⟨List.mem_of_getElem? h, hg⟩
abbrev am_C : Type := (Nat × Nat × (Nat → Int32)) ⊕ (List (Option Nat) ⊕ (Nat × List Value))
abbrev am_H : Type := List (Option am_C)
def am_v (r : Nat → Nat) : Value → Value := fun v => match v with
  | .ref i => .ref (r i)
  | w => w
def am_e (cy : Nat → ClassId) (r : Nat → Nat) : am_C → va_E := fun c => match c with
  | .inl a => .inl (cy a.1, a.2.1, .inl a.2.2)
  | .inr (.inl l) => .inl (cy 2, l.length, .inr (.inr (.inr (.inr (fun j => (l.getD j none).map r)))))
  | .inr (.inr o) => .inr (o.1, o.2.map (am_v r))
def am_tys (cy : Nat → ClassId) : List (ClassId × FieldType) := [(cy 0, .int), (cy 1, .boolean), (cy 2, .object RX3)]
def am_K (D : va_G) (cy : Nat → ClassId) (U : State) : Prop := va_K D vwCl (am_tys cy) U ∧ (∀ w ∈ am_N, va_Nw w U) ∧ va_AO RX3 U
theorem am_K.warm {D : va_G} {cy : Nat → ClassId} {s U : State} (hW : s.WarmedH U.vm) (h : am_K D cy s) : am_K D cy U := by
  refine ⟨va_K.moved hW.alike h.1, fun w hw => ?_, va_AO.moved hW.alike h.2.2⟩
  have h2 := h.2.1 w hw
  simp only [am_N, List.mem_cons, List.not_mem_nil, or_false] at hw
  rcases hw with rfl | rfl | rfl | rfl | rfl | rfl | rfl
  · exact va_Nw.warmF hW h2
  · exact va_Nw.warmF hW h2
  · exact va_Nw.warmF hW h2
  · exact va_Nw.warmF hW h2
  · exact va_Nw.warmF hW h2
  · exact va_Nw.warmM hW h2
  · exact va_Nw.warmM hW h2
theorem am_K.same {D : va_G} {cy : Nat → ClassId} {s U : State} (hW : s.vm = U.vm) (h : am_K D cy s) : am_K D cy U := by
  have ha : s.vm.Alike U.vm := by rw [hW]; exact Vm.Alike.refl _
  refine ⟨va_K.moved ha h.1, fun w hw => ?_, va_AO.moved ha h.2.2⟩
  have h2 := h.2.1 w hw
  refine va_Nw.same ?_ hW h2
  simp only [am_N, List.mem_cons, List.not_mem_nil, or_false] at hw
  rcases hw with rfl | rfl | rfl | rfl | rfl | rfl | rfl <;> rfl
/-- the world stands in the heap -/
def am_Z (D : va_G) (cy : Nat → ClassId) (r : Nat → Nat) (h : am_H) (A : Nat → Prop) (H : Heap) : Prop :=
  (∀ (k : Nat) (c : am_C), h[k]? = some (some c) → va_at D vwCl (r k, am_e cy r c) H) ∧ (∀ (i j : Nat) (c d : am_C), h[i]? = some (some c) → h[j]? = some (some d) → r i = r j → i = j) ∧ ∀ (k : Nat) (c : am_C), h[k]? = some (some c) → A (r k)
theorem am_Z.toW {D : va_G} {cy : Nat → ClassId} {r : Nat → Nat} {h : am_H} {A : Nat → Prop} {H : Heap} (z : am_Z D cy r h A H) :
    ∃ ws : va_W, va_P D vwCl ws H ∧ va_D A ws ∧ ∀ (k : Nat) (c : am_C), h[k]? = some (some c) → ∃ q : Nat, ws[q]? = some (r k, am_e cy r c) := by
  obtain ⟨z1, z2, z3⟩ := z
  obtain ⟨f, hf⟩ : ∃ f : Nat → Nat × va_E, ∀ k c, h[k]? = some (some c) → f k = (r k, am_e cy r c) :=
    ⟨fun k => match h[k]? with | some (some c) => (r k, am_e cy r c) | _ => (0, .inr (0, [])), fun k c hk => by simp [hk]⟩
  obtain ⟨g, hg⟩ : ∃ g : Nat → Bool, ∀ k, g k = true ↔ ∃ c, h[k]? = some (some c) :=
    ⟨fun k => match h[k]? with | some (some _) => true | _ => false, fun k => by
      cases hk : h[k]? with
      | none => simp [hk]
      | some o => cases o <;> simp [hk]⟩
  have hnd : ((List.range h.length).filter g).Nodup := List.Pairwise.filter _ List.nodup_range
  refine ⟨((List.range h.length).filter g).map f, fun q x hx => ?_, ⟨fun i j x y hi hj hxy => ?_, fun q x hx => ?_⟩, fun k c hk => ?_⟩
  · rw [List.getElem?_map] at hx
    cases hq : ((List.range h.length).filter g)[q]? with
    | none => rw [hq] at hx; cases hx
    | some k =>
      rw [hq] at hx
      obtain ⟨c, hc⟩ := (hg k).mp (List.mem_filter.mp (List.mem_of_getElem? hq)).2
      have e : f k = x := Option.some.inj hx
      rw [← e, hf k c hc]
      exact z1 k c hc
  · rw [List.getElem?_map] at hi hj
    cases hq : ((List.range h.length).filter g)[i]? with
    | none => rw [hq] at hi; cases hi
    | some k =>
      cases hq2 : ((List.range h.length).filter g)[j]? with
      | none => rw [hq2] at hj; cases hj
      | some k2 =>
        rw [hq] at hi
        rw [hq2] at hj
        obtain ⟨c, hc⟩ := (hg k).mp (List.mem_filter.mp (List.mem_of_getElem? hq)).2
        obtain ⟨c2, hc2⟩ := (hg k2).mp (List.mem_filter.mp (List.mem_of_getElem? hq2)).2
        have e : f k = x := Option.some.inj hi
        have e2 : f k2 = y := Option.some.inj hj
        rw [← e, ← e2, hf k c hc, hf k2 c2 hc2] at hxy
        have ek := z2 k k2 c c2 hc hc2 hxy
        subst ek
        exact (List.getElem?_inj (List.getElem?_eq_some_iff.mp hq).1 hnd).mp (by rw [hq, hq2])
  · rw [List.getElem?_map] at hx
    cases hq : ((List.range h.length).filter g)[q]? with
    | none => rw [hq] at hx; cases hx
    | some k =>
      rw [hq] at hx
      obtain ⟨c, hc⟩ := (hg k).mp (List.mem_filter.mp (List.mem_of_getElem? hq)).2
      have e : f k = x := Option.some.inj hx
      rw [← e, hf k c hc]
      exact z3 k c hc
  · have hm : k ∈ (List.range h.length).filter g := List.mem_filter.mpr ⟨List.mem_range.mpr (List.getElem?_eq_some_iff.mp hk).1, (hg k).mpr ⟨c, hk⟩⟩
    obtain ⟨q, hq⟩ := List.getElem?_of_mem hm
    exact ⟨q, by rw [List.getElem?_map, hq, Option.map_some, hf k c hk]⟩
theorem am_set_ne {h : am_H} {k j : Nat} {o : Option am_C} (e : j ≠ k) : (h.set k o)[j]? = h[j]? := List.getElem?_set_ne (Ne.symm e)
theorem am_set_eq {h : am_H} {k : Nat} {o x : Option am_C} (e : h[k]? = some x) : (h.set k o)[k]? = some o := by
  rw [List.getElem?_set_self (List.getElem?_eq_some_iff.mp e).1]
theorem am_Z.set {D : va_G} {cy : Nat → ClassId} {r : Nat → Nat} {h : am_H} {A : Nat → Prop} {H H' : Heap} (z : am_Z D cy r h A H) {ws : va_W} {q k : Nat} {c c' : am_C} (hk : h[k]? = some (some c))
    (cov : ∀ (k : Nat) (c : am_C), h[k]? = some (some c) → ∃ q : Nat, ws[q]? = some (r k, am_e cy r c)) (hq : ws[q]? = some (r k, am_e cy r c)) (hP : va_P D vwCl (ws.set q (r k, am_e cy r c')) H') : am_Z D cy r (h.set k (some c')) A H' := by
  obtain ⟨z1, z2, z3⟩ := z
  have key : ∀ (j : Nat) (d : am_C), (h.set k (some c'))[j]? = some (some d) → (j = k ∧ d = c') ∨ (j ≠ k ∧ h[j]? = some (some d)) := by
    intro j d hj
    by_cases e : j = k
    · subst e
      rw [am_set_eq hk] at hj
      exact Or.inl ⟨rfl, (Option.some.inj (Option.some.inj hj)).symm⟩
    · rw [am_set_ne e] at hj
      exact Or.inr ⟨e, hj⟩
  have pres : ∀ (j : Nat) (d : am_C), (h.set k (some c'))[j]? = some (some d) → ∃ d', h[j]? = some (some d') := by
    intro j d hj
    rcases key j d hj with ⟨e, -⟩ | ⟨-, e⟩
    · subst e; exact ⟨c, hk⟩
    · exact ⟨d, e⟩
  refine ⟨fun j d hj => ?_, fun i j a b hi hj e => ?_, fun j d hj => ?_⟩
  · rcases key j d hj with ⟨e1, e2⟩ | ⟨e1, e2⟩
    · subst e1; subst e2
      exact hP q _ (by rw [List.getElem?_set_self (List.getElem?_eq_some_iff.mp hq).1])
    · obtain ⟨q', hq'⟩ := cov j d e2
      have hne : q' ≠ q := fun e => by
        subst e
        rw [hq] at hq'
        exact e1 (z2 j k d c e2 hk (congrArg Prod.fst (Option.some.inj hq')).symm)
      exact hP q' _ (by rw [List.getElem?_set_ne (Ne.symm hne)]; exact hq')
  · obtain ⟨a', ha⟩ := pres i a hi
    obtain ⟨b', hb⟩ := pres j b hj
    exact z2 i j a' b' ha hb e
  · obtain ⟨d', hd⟩ := pres j d hj
    exact z3 j d' hd
-- no reference to a place
def am_nv (k : Nat) : Value → Bool := fun v => match v with
  | .ref i => !(Nat.beq i k)
  | _ => true
def am_nc (k : Nat) : am_C → Bool := fun c => match c with
  | .inl _ => true
  | .inr (.inl l) => l.all (fun o => match o with | none => true | some i => !(Nat.beq i k))
  | .inr (.inr o) => o.2.all (am_nv k)
def am_nh (k : Nat) (h : am_H) : Bool := h.all (fun o => match o with | none => true | some c => am_nc k c)
def am_nl (k : Nat) (ls : List (Option Value)) : Bool := ls.all (fun o => match o with | none => true | some v => am_nv k v)
def am_ns (k : Nat) (st : List Value) : Bool := st.all (am_nv k)
theorem am_v_eq {r r' : Nat → Nat} {v : Value} (h : ∀ i, v = .ref i → r' i = r i) : am_v r' v = am_v r v := by
  cases v <;> simp [am_v]
  rename_i i
  exact h i rfl
theorem am_nv_ne {k : Nat} {v : Value} (h : am_nv k v = true) : ∀ i, v = .ref i → i ≠ k := by
  intro i e he
  subst e; subst he
  simp [am_nv] at h
theorem am_e_eq {cy : Nat → ClassId} {r r' : Nat → Nat} {c : am_C} (h : ∀ i, (∀ o : Nat × List Value, c = .inr (.inr o) → .ref i ∈ o.2 → r' i = r i) ∧ (∀ l : List (Option Nat), c = .inr (.inl l) → some i ∈ l → r' i = r i)) : am_e cy r' c = am_e cy r c := by
  rcases c with a | l | o
  · rfl
  · simp only [am_e]
    refine congrArg (fun z : Nat → Option Nat => (Sum.inl (cy 2, l.length, .inr (.inr (.inr (.inr z)))) : va_E)) (funext fun j => ?_)
    cases hj : l.getD j none with
    | none => rfl
    | some i =>
      have hm : some i ∈ l := by
        rw [List.getD_eq_getElem?_getD] at hj
        cases hq : l[j]? with
        | none => rw [hq] at hj; cases hj
        | some x => rw [hq] at hj; have : x = some i := hj; subst this; exact List.mem_of_getElem? hq
      simp [(h i).2 l rfl hm]
  · simp only [am_e]
    congr 2
    apply List.map_congr_left
    intro v hv
    exact am_v_eq (fun i e => (h i).1 o rfl (e ▸ hv))
theorem am_nc_eq {cy : Nat → ClassId} {r r' : Nat → Nat} {k : Nat} (hr : ∀ i, i ≠ k → r' i = r i) {c : am_C} (h : am_nc k c = true) : am_e cy r' c = am_e cy r c := by
  refine am_e_eq (fun i => ⟨fun o e hm => hr i ?_, fun l e hm => hr i ?_⟩)
  · subst e
    have h1 := List.all_eq_true.mp (show o.2.all (am_nv k) = true from h) _ hm
    exact am_nv_ne h1 i rfl
  · subst e
    have h1 := List.all_eq_true.mp (show l.all _ = true from h) _ hm
    intro he
    subst he
    simp at h1
theorem am_Z.push {D : va_G} {cy : Nat → ClassId} {r : Nat → Nat} {h : am_H} {A : Nat → Prop} {H H' : Heap} (z : am_Z D cy r h A H) {ws : va_W} {k a : Nat} {c : am_C} (hk : h[k]? = some none) (hn : am_nh k h = true)
    (cov : ∀ (k : Nat) (c : am_C), h[k]? = some (some c) → ∃ q : Nat, ws[q]? = some (r k, am_e cy r c)) (hc : ∀ r r' : Nat → Nat, am_e cy r c = am_e cy r' c) (hP : va_P D vwCl (ws ++ [(a, am_e cy r c)]) H') (hD : va_D A (ws ++ [(a, am_e cy r c)])) : am_Z D cy (fun i => if i = k then a else r i) (h.set k (some c)) A H' := by
  obtain ⟨z1, z2, z3⟩ := z
  have key : ∀ (j : Nat) (d : am_C), (h.set k (some c))[j]? = some (some d) → (j = k ∧ d = c) ∨ (j ≠ k ∧ h[j]? = some (some d)) := by
    intro j d hj
    by_cases e : j = k
    · subst e
      rw [am_set_eq hk] at hj
      exact Or.inl ⟨rfl, (Option.some.inj (Option.some.inj hj)).symm⟩
    · rw [am_set_ne e] at hj
      exact Or.inr ⟨e, hj⟩
  have hold : ∀ (j : Nat) (d : am_C), h[j]? = some (some d) → ∃ q : Nat, q < ws.length ∧ (ws ++ [(a, am_e cy r c)])[q]? = some (r j, am_e cy r d) := by
    intro j d hj
    obtain ⟨q, hq⟩ := cov j d hj
    have hl := (List.getElem?_eq_some_iff.mp hq).1
    exact ⟨q, hl, by rw [List.getElem?_append_left hl]; exact hq⟩
  have hnew : (ws ++ [(a, am_e cy r c)])[ws.length]? = some (a, am_e cy r c) := by simp
  have hne : ∀ (j : Nat) (d : am_C), h[j]? = some (some d) → r j ≠ a := by
    intro j d hj e
    obtain ⟨q, hl, hq⟩ := hold j d hj
    have := hD.1 q ws.length _ _ hq hnew e
    omega
  refine ⟨fun j d hj => ?_, fun i j x y hi hj e => ?_, fun j d hj => ?_⟩
  · rcases key j d hj with ⟨e1, e2⟩ | ⟨e1, e2⟩
    · subst e1; subst e2
      simp only [if_true]
      rw [hc _ r]
      exact hP _ _ hnew
    · simp only [if_neg e1]
      have hcd : am_nc k d = true := List.all_eq_true.mp hn _ (List.mem_of_getElem? e2)
      rw [am_nc_eq (r := r) (fun i hi => if_neg hi) hcd]
      obtain ⟨q, -, hq⟩ := hold j d e2
      exact hP _ _ hq
  · rcases key i x hi with ⟨e1, -⟩ | ⟨e1, e2⟩ <;> rcases key j y hj with ⟨f1, -⟩ | ⟨f1, f2⟩
    · rw [e1, f1]
    · simp only [e1, if_true, if_neg f1] at e
      exact absurd e.symm (hne j y f2)
    · simp only [f1, if_true, if_neg e1] at e
      exact absurd e (hne i x e2)
    · simp only [if_neg e1, if_neg f1] at e
      exact z2 i j x y e2 f2 e
  · rcases key j d hj with ⟨e1, e2⟩ | ⟨e1, e2⟩
    · simp only [e1, if_true]
      exact hD.2 _ _ hnew
    · simp only [if_neg e1]
      exact z3 j d e2
