/-! distances are few, and plans follow them -/
section DF
variable {G : Nat → Prop} {E : Nat → Nat → Nat → Prop} {N : Nat}
theorem rch_lt (hG : ∀ s, G s → s < N) (hE : ∀ r s w, E r s w → s < N ∧ (w = 10001 ∨ w = 1)) : ∀ k c s, rch G E k c s → s < N
  | 0, _, s, h => hG s h.1
  | k + 1, _, s, ⟨r, w, _, _, he, _⟩ => (hE r s w he).1
theorem isD_pre {k c w : Nat} {r s : Nat} (hd : isD G E (c + w) s) (hr : rch G E k c r) (he : E r s w) : isD G E c r :=
  ⟨⟨k, hr⟩, fun k' c' h' => by
    have := hd.2 (k' + 1) (c' + w) ⟨r, w, c', h', he, rfl⟩
    omega⟩
theorem dist_few (hG : ∀ s, G s → s < N) (hE : ∀ r s w, E r s w → s < N ∧ (w = 10001 ∨ w = 1)) : ∀ e s, isD G E e s → ∃ (T A : Nat) (xs : List Nat), e = 10000 * T + A ∧ T ≤ A ∧ xs.length = A ∧ xs.Nodup ∧ ∀ x ∈ xs, x < N ∧ ∃ e', e' < e ∧ isD G E e' x := by
  intro e
  induction e using Nat.strongRecOn with
  | ind e ih =>
    intro s hd
    obtain ⟨k, hk⟩ := hd.1
    cases k with
    | zero =>
      have e0 : e = 0 := hk.2
      exact ⟨0, 0, [], by omega, by omega, rfl, List.nodup_nil, fun x hx => by simp at hx⟩
    | succ k =>
      obtain ⟨r, w, c', hr, he, rfl⟩ := hk
      have hw := (hE r s w he).2
      have hdr := isD_pre hd hr he
      obtain ⟨T, A, xs, e1, e2, e3, e4, e5⟩ := ih c' (by omega) r hdr
      have hrx : r ∉ xs := fun hx => by
        obtain ⟨-, e', h1, h2⟩ := e5 r hx
        have := isD_unique G E h2 hdr
        omega
      refine ⟨if w = 1 then T else T + 1, A + 1, r :: xs, ?_, ?_, by simp [e3], List.nodup_cons.mpr ⟨hrx, e4⟩, fun x hx => ?_⟩
      · split <;> omega
      · split <;> omega
      · rcases List.mem_cons.mp hx with z | z
        · subst z
          exact ⟨rch_lt hG hE _ _ _ hr, c', by omega, hdr⟩
        · obtain ⟨h0, e', h1, h2⟩ := e5 x z
          exact ⟨h0, e', by omega, h2⟩
theorem dist_small (hG : ∀ s, G s → s < N) (hE : ∀ r s w, E r s w → s < N ∧ (w = 10001 ∨ w = 1)) (hN : N ≤ 4032) {e s : Nat} (h : isD G E e s) : ∃ T A, e = 10000 * T + A ∧ T ≤ A ∧ A ≤ 4031 := by
  obtain ⟨T, A, xs, e1, e2, e3, e4, e5⟩ := dist_few hG hE e s h
  have hs : s ∉ xs := fun hx => by
    obtain ⟨-, e', h1, h2⟩ := e5 s hx
    have := isD_unique G E h2 h
    omega
  obtain ⟨k, hk⟩ := h.1
  have := few N (s :: xs) (List.nodup_cons.mpr ⟨hs, e4⟩) (fun x hx => by
    rcases List.mem_cons.mp hx with z | z
    · rw [z]; exact rch_lt hG hE _ _ _ hk
    · exact (e5 x z).1)
  simp at this
  exact ⟨T, A, e1, e2, by omega⟩
end DF
section PD
variable (len siz : Nat → Nat) (ded : Nat → Bool) (n l p : Nat)
/-- the least cost of a situation -/
def dD (e : Nat) (a : Sit) : Prop := isD (vG (sV len siz n) (sG l p)) (vE (sV len siz n) (sE len siz ded)) e a
/-- the action that the best plan begins with -/
def bst (a : Sit) (code : Nat) (b : Sit) : Prop := act len siz ded code a b ∧ (∃ e, dD len siz ded n l p e b ∧ dD len siz ded n l p (e + wgt code) a) ∧ ∀ code' b', code' < code → act len siz ded code' a b' → ¬ ∃ e, dD len siz ded n l p e b' ∧ dD len siz ded n l p (e + wgt code') a
def chn : Nat → Sit → Nat → Prop
  | 0, a, x => ∃ b, bst len siz ded n l p a x b
  | i + 1, a, x => ∃ code b, bst len siz ded n l p a code b ∧ chn i b x
variable {len siz ded n l p}
theorem wgt_or (code : Nat) : wgt code = 10001 ∨ wgt code = 1 := by unfold wgt; split <;> simp
theorem dC (hs1 : ∀ l, l < n → 1 ≤ siz l) {e : Nat} {a : Sit} (hV : sV len siz n a) : isD (gC len siz n l p) (eC len siz ded n) e (fC len n a) ↔ dD len siz ded n l p e a := push_isD _ _ _ _ (fC_inj hs1) hV
theorem dD_small (hs1 : ∀ l, l < n → 1 ≤ siz l) (hn : n ≤ 3) (h5 : trk len 12 ≤ 5) {e : Nat} {a : Sit} (hV : sV len siz n a) (h : dD len siz ded n l p e a) : ∃ T A, e = 10000 * T + A ∧ T ≤ A ∧ A ≤ 4031 := by
  have hS := (fC_lt hs1 hn h5 hV).2
  refine dist_small (N := 12 * cnt (plc len 12).length n) ?_ ?_ hS ((dC hs1 hV).mpr h)
  · rintro s ⟨a, va, -, e⟩
    rw [← e]; exact (fC_lt hs1 hn h5 va).1
  · rintro r s w ⟨a, b, va, vb, ⟨code, -, ew⟩, -, e⟩
    rw [← e, ew]; exact ⟨(fC_lt hs1 hn h5 vb).1, wgt_or code⟩
theorem dD_V {e : Nat} {a : Sit} (h : dD len siz ded n l p e a) : sV len siz n a := by
  obtain ⟨k, hk⟩ := h.1
  cases k with
  | zero => exact hk.1.1
  | succ k => obtain ⟨r, w, c', -, he, -⟩ := hk; exact he.2.1
theorem dD_one {e e' : Nat} {a : Sit} (h : dD len siz ded n l p e a) (h' : dD len siz ded n l p e' a) : e = e' := isD_unique _ _ h h'
/-- a step of a best plan lowers the actions by one -/
theorem dD_step (hs1 : ∀ l, l < n → 1 ≤ siz l) (hn : n ≤ 3) (h5 : trk len 12 ≤ 5) {e code : Nat} {a b : Sit} (h : dD len siz ded n l p e b) : (e + wgt code) % 10000 = e % 10000 + 1 ∧ e % 10000 ≤ 4031 := by
  obtain ⟨T, A, e1, e2, e3⟩ := dD_small hs1 hn h5 (dD_V h) h
  rcases wgt_or code with z | z <;> rw [z] <;> omega
theorem bst_one (hn : n ≤ 3) {a b b' : Sit} {code code' : Nat} (hV : sV len siz n a) (h : bst len siz ded n l p a code b) (h' : bst len siz ded n l p a code' b') : code = code' ∧ b = b' := by
  have e : code = code' := by
    rcases Nat.lt_trichotomy code code' with z | z | z
    · exact absurd h.2.1 (h'.2.2 code b z h.1)
    · exact z
    · exact absurd h'.2.1 (h.2.2 code' b' z h'.1)
  subst e
  exact ⟨rfl, act_one hV hn h'.1 h.1⟩
theorem chn_one (hn : n ≤ 3) : ∀ i (a : Sit) (x y : Nat), sV len siz n a → chn len siz ded n l p i a x → chn len siz ded n l p i a y → x = y
  | 0, a, x, y, hV, ⟨b, h⟩, ⟨b', h'⟩ => (bst_one hn hV h h').1
  | i + 1, a, x, y, hV, ⟨c, b, h, g⟩, ⟨c', b', h', g'⟩ => by
    have := (bst_one hn hV h h').2
    subst this
    exact chn_one hn i b x y (act.V hV h.1) g g'
/-- off the goals there is a best action -/
theorem bst_ex (hn : n ≤ 3) {e : Nat} {a : Sit} (h : dD len siz ded n l p e a) (he : 0 < e) : ∃ code b, bst len siz ded n l p a code b := by
  have hV := dD_V h
  obtain ⟨k, hk⟩ := h.1
  cases k with
  | zero => exact absurd hk.2 (by omega)
  | succ k =>
    obtain ⟨r, w, c', hr, ⟨vr, va, hE⟩, rfl⟩ := hk
    have hr' : dD len siz ded n l p c' r := ⟨⟨k, hr⟩, fun k' c'' h' => by
      have := h.2 (k' + 1) (c'' + w) ⟨r, w, c'', h', ⟨vr, va, hE⟩, rfl⟩
      omega⟩
    obtain ⟨code, hact, ew⟩ := sE.rev vr hE
    have hex : ∃ code, ∃ b, act len siz ded code a b ∧ ∃ e, dD len siz ded n l p e b ∧ dD len siz ded n l p (e + wgt code) a := ⟨code, r, hact, c', hr', by rw [← ew]; exact h⟩
    obtain ⟨x, ⟨b, hb, hd⟩, hx⟩ := pk_least _ hex
    exact ⟨x, b, hb, hd, fun code' b' hc hb' hd' => hx code' hc ⟨b', hb', hd'⟩⟩
theorem goal_zero {a : Sit} (hV : sV len siz n a) (h : sG l p a) : dD len siz ded n l p 0 a := ⟨⟨0, ⟨hV, h⟩, rfl⟩, fun _ _ _ => Nat.zero_le _⟩
end PD
