/-! least costs in a graph -/
section GR
variable {α : Type} (G : α → Prop) (E : α → α → Nat → Prop)
/-- a path of k edges and cost c from a goal to s -/
def rch : Nat → Nat → α → Prop
  | 0, c, s => G s ∧ c = 0
  | k + 1, c, s => ∃ r w c', rch k c' r ∧ E r s w ∧ c = c' + w
/-- c is the least cost of s -/
def isD (c : Nat) (s : α) : Prop := (∃ k, rch G E k c s) ∧ ∀ k c', rch G E k c' s → c ≤ c'
/-- what a search has settled below a level -/
theorem low {c : α → Nat} {lv : Nat} (h1 : ∀ s, G s → c s = 0) (h2 : ∀ s t w, c s < lv → E s t w → c t ≤ c s + w) : ∀ k c' s, rch G E k c' s → c s ≤ c' ∨ lv ≤ c' := by
  intro k
  induction k with
  | zero =>
    intro c' s h
    have := h1 s h.1
    exact Or.inl (by omega)
  | succ k ih =>
    intro c' t h
    obtain ⟨r, w, c0, hr, he, e⟩ := h
    rcases ih c0 r hr with z | z
    · by_cases hl : c r < lv
      · have := h2 r t w hl he
        exact Or.inl (by omega)
      · exact Or.inr (by omega)
    · exact Or.inr (by omega)
theorem low_isD {c : α → Nat} {lv : Nat} {s : α} (h1 : ∀ s, G s → c s = 0) (h2 : ∀ s t w, c s < lv → E s t w → c t ≤ c s + w) (h3 : ∃ k, rch G E k (c s) s) (hs : c s ≤ lv) : isD G E (c s) s :=
  ⟨h3, fun k c' h => by
    rcases low G E h1 h2 k c' s h with z | z
    · exact z
    · omega⟩
theorem isD_unique {c c' : Nat} {s : α} (h : isD G E c s) (h' : isD G E c' s) : c = c' := by
  obtain ⟨k, hk⟩ := h.1
  obtain ⟨k', hk'⟩ := h'.1
  have a := h.2 k' c' hk'
  have b := h'.2 k c hk
  omega
/-- a cost that is not settled can't seem to lie on a best plan -/
theorem low_next {c : α → Nat} {lv w : Nat} {s t : α} (h1 : ∀ s, G s → c s = 0) (h2 : ∀ s t w, c s < lv → E s t w → c t ≤ c s + w) (h3 : ∀ s, c s < 1000000000 → ∃ k, rch G E k (c s) s) (hs : c s ≤ lv) (hsb : c s < 1000000000) (hw : 0 < w) : (c t + w = c s ↔ ∃ e, isD G E e t ∧ e + w = c s) := by
  constructor
  · intro h
    exact ⟨c t, low_isD G E h1 h2 (h3 t (by omega)) (by omega), h⟩
  · intro ⟨e, he, h⟩
    obtain ⟨k, hk⟩ := he.1
    rcases low G E h1 h2 k e t hk with z | z
    · have hb : c t < 1000000000 := by omega
      obtain ⟨k2, hk2⟩ := h3 t hb
      have := he.2 k2 (c t) hk2
      omega
    · omega
end GR
