/-! the rule of a call: the callee's world is a part of the caller's, by its places -/
def am_ix (is : List Nat) (j : Nat) : Nat := is.getD j j
def am_rn (is : List Nat) : am_C → am_C := fun c => match c with
  | .inl a => .inl a
  | .inr (.inl l) => .inr (.inl (l.map (Option.map (am_ix is))))
  | .inr (.inr o) => .inr (.inr (o.1, o.2.map (am_v (am_ix is))))
def am_put : List Nat → am_H → am_H → am_H
  | i :: is, o :: os, h => am_put is os (h.set i o)
  | _, _, h => h
def am_okv (n : Nat) : Value → Bool := fun v => match v with
  | .ref j => Nat.blt j n || Nat.beq j 1000
  | _ => true
def am_okc (n : Nat) : am_C → Bool := fun c => match c with
  | .inl _ => true
  | .inr (.inl l) => l.all (fun o => match o with | none => true | some j => Nat.blt j n || Nat.beq j 1000)
  | .inr (.inr o) => o.2.all (am_okv n)
def am_okh (n : Nat) (h : am_H) : Bool := h.all (fun o => match o with | none => true | some c => am_okc n c)
def am_fr : List Nat → am_H → am_H → List (Option Value) → List Value → Bool
  | i :: is, none :: os, h, ls, st => am_nh i h && (am_nl i ls && (am_ns i st && am_fr is os h ls st))
  | _ :: is, some _ :: os, h, ls, st => am_fr is os h ls st
  | _, _, _, _, _ => true
theorem am_fr_at : ∀ (is : List Nat) (hc h : am_H) (ls : List (Option Value)) (st : List Value), am_fr is hc h ls st = true → ∀ (k i : Nat), is[k]? = some i → hc[k]? = some none → am_nh i h = true ∧ am_nl i ls = true ∧ am_ns i st = true
  | [], _, _, _, _, _, k, i, h, _ => by simp at h
  | _ :: _, [], _, _, _, _, k, i, _, h => by simp at h
  | i0 :: is, none :: os, h, ls, st, hf, k, i, hi, hk => by
    simp only [am_fr, Bool.and_eq_true] at hf
    cases k with
    | zero =>
      have : i0 = i := Option.some.inj hi
      subst this
      exact ⟨hf.1, hf.2.1, hf.2.2.1⟩
    | succ k => exact am_fr_at is os h ls st hf.2.2.2 k i hi hk
  | i0 :: is, some c :: os, h, ls, st, hf, k, i, hi, hk => by
    cases k with
    | zero => simp at hk
    | succ k => exact am_fr_at is os h ls st hf k i hi hk
theorem am_put_len : ∀ (is : List Nat) (os h : am_H), (am_put is os h).length = h.length
  | [], _, _ => rfl
  | _ :: _, [], _ => rfl
  | i :: is, o :: os, h => by
    show (am_put is os (h.set i o)).length = _
    rw [am_put_len is os, List.length_set]
theorem am_put_out : ∀ (is : List Nat) (os h : am_H) (i : Nat), i ∉ is → (am_put is os h)[i]? = h[i]?
  | [], _, _, _, _ => rfl
  | _ :: _, [], _, _, _ => rfl
  | j :: is, o :: os, h, i, hi => by
    show (am_put is os (h.set j o))[i]? = _
    rw [am_put_out is os _ i (fun z => hi (List.mem_cons_of_mem _ z)), List.getElem?_set_ne (fun z => hi (by rw [z]; exact List.mem_cons_self))]
theorem am_put_in : ∀ (is : List Nat) (os h : am_H), (∀ (a b x : Nat), is[a]? = some x → is[b]? = some x → a = b) → ∀ (k i : Nat) (o : Option am_C), is[k]? = some i → os[k]? = some o → i < h.length → (am_put is os h)[i]? = some o
  | [], _, _, _, k, i, o, hi, _, _ => by simp at hi
  | _ :: _, [], _, _, k, i, o, _, ho, _ => by simp at ho
  | j :: is, o0 :: os, h, hnd, k, i, o, hi, ho, hl => by
    show (am_put is os (h.set j o0))[i]? = _
    cases k with
    | zero =>
      have e1 : j = i := Option.some.inj hi
      have e2 : o0 = o := Option.some.inj ho
      subst e1; subst e2
      have hni : j ∉ is := fun z => by
        obtain ⟨q, hq⟩ := List.getElem?_of_mem z
        have := hnd 0 (q + 1) j rfl hq
        omega
      rw [am_put_out is os _ j hni, List.getElem?_set_self hl]
    | succ k =>
      exact am_put_in is os _ (fun a b x ha hb => by have := hnd (a + 1) (b + 1) x ha hb; omega) k i o hi ho (by rw [List.length_set]; exact hl)
theorem am_v_v (r f : Nat → Nat) (v : Value) : am_v r (am_v f v) = am_v (fun j => r (f j)) v := by cases v <;> rfl
theorem am_e_rn (cy : Nat → ClassId) (r : Nat → Nat) (is : List Nat) (c : am_C) : am_e cy r (am_rn is c) = am_e cy (fun j => r (am_ix is j)) c := by
  rcases c with a | l | o
  · rfl
  · simp only [am_e, am_rn, List.length_map]
    refine congrArg (fun z : Nat → Option Nat => (Sum.inl (cy 2, l.length, .inr (.inr (.inr (.inr z)))) : va_E)) (funext fun j => ?_)
    simp only [List.getD_eq_getElem?_getD, List.getElem?_map]
    cases l[j]? with
    | none => rfl
    | some x => cases x <;> rfl
  · simp only [am_e, am_rn, List.map_map]
    congr 2
    exact List.map_congr_left (fun v _ => am_v_v r (am_ix is) v)
theorem am_okc_eq {cy : Nat → ClassId} {n : Nat} {r r' : Nat → Nat} {c : am_C} (h : am_okc n c = true) (hr : ∀ i, i < n ∨ i = 1000 → r' i = r i) : am_e cy r' c = am_e cy r c := by
  refine am_e_eq (fun i => ⟨fun o e hm => hr i ?_, fun l e hm => hr i ?_⟩)
  · subst e
    have h1 := List.all_eq_true.mp (show o.2.all (am_okv n) = true from h) _ hm
    simp only [am_okv, Bool.or_eq_true] at h1
    rcases h1 with h1 | h1
    · exact Or.inl (by simpa [Nat.blt_eq] using h1)
    · exact Or.inr (by simpa using h1)
  · subst e
    have h1 := List.all_eq_true.mp (show l.all _ = true from h) _ hm
    simp only [Bool.or_eq_true] at h1
    rcases h1 with h1 | h1
    · exact Or.inl (by simpa [Nat.blt_eq] using h1)
    · exact Or.inr (by simpa using h1)
theorem am_okv_eq {n : Nat} {r r' : Nat → Nat} {v : Value} (h : am_okv n v = true) (hr : ∀ i, i < n ∨ i = 1000 → r' i = r i) : am_v r' v = am_v r v := by
  refine am_v_eq (fun i e => hr i ?_)
  subst e
  simp only [am_okv, Bool.or_eq_true] at h
  rcases h with h1 | h1
  · exact Or.inl (by simpa [Nat.blt_eq] using h1)
  · exact Or.inr (by simpa using h1)
/-- what the caller's world gives the callee -/
theorem am_sub_get {is : List Nat} {hc h : am_H} (hsub : is.map (fun i => h[i]?) = hc.map (fun o => some (o.map (am_rn is)))) : is.length = hc.length ∧ ∀ (k : Nat) (o : Option am_C), hc[k]? = some o → ∃ i, is[k]? = some i ∧ h[i]? = some (o.map (am_rn is)) := by
  have hl : is.length = hc.length := by
    have := congrArg List.length hsub
    simpa using this
  refine ⟨hl, fun k o hk => ?_⟩
  have h1 : (is.map (fun i => h[i]?))[k]? = some (some (o.map (am_rn is))) := by rw [hsub, List.getElem?_map, hk]; rfl
  rw [List.getElem?_map] at h1
  cases hi : is[k]? with
  | none => rw [hi] at h1; cases h1
  | some i => rw [hi] at h1; exact ⟨i, rfl, Option.some.inj h1⟩
theorem am_ix_at {is : List Nat} {k i : Nat} (h : is[k]? = some i) : am_ix is k = i := by
  unfold am_ix
  rw [List.getD_eq_getElem?_getD, h]
  rfl
theorem am_Z.sub {D : va_G} {cy : Nat → ClassId} {r : Nat → Nat} {h hc : am_H} {A : Nat → Prop} {H : Heap} {is : List Nat} (z : am_Z D cy r h A H) (hsub : is.map (fun i => h[i]?) = hc.map (fun o => some (o.map (am_rn is)))) (hnd : va_nd is = true) (sz : Nat) : am_Z D cy (fun j => r (am_ix is j)) hc (am_A (fun j => r (am_ix is j)) hc sz) H := by
  obtain ⟨hl, hget⟩ := am_sub_get hsub
  refine ⟨fun k c hk => ?_, fun i j c d hi hj e => ?_, fun k c hk => Or.inl ⟨k, c, hk, rfl⟩⟩
  · obtain ⟨i, h1, h2⟩ := hget k _ hk
    have := z.1 i _ h2
    rw [am_e_rn] at this
    simp only [am_ix_at h1]
    exact this
  · obtain ⟨a, h1, h2⟩ := hget i _ hi
    obtain ⟨b, h3, h4⟩ := hget j _ hj
    simp only [am_ix_at h1, am_ix_at h3] at e
    have := z.2.1 a b _ _ h2 h4 e
    subst this
    exact va_nd_inj is hnd i j a h1 h3
