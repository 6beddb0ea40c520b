/-! numbers for situations -/
section PU
variable {α : Type} (V : α → Prop) (G : α → Prop) (E : α → α → Nat → Prop) (f : α → Nat)
def pG (s : Nat) : Prop := ∃ a, V a ∧ G a ∧ f a = s
def pE (s t w : Nat) : Prop := ∃ a b, V a ∧ V b ∧ E a b w ∧ f a = s ∧ f b = t
/-- a path through situations -/
def vG (a : α) : Prop := V a ∧ G a
def vE (a b : α) (w : Nat) : Prop := V a ∧ V b ∧ E a b w
theorem push_to : ∀ k c a, rch (vG V G) (vE V E) k c a → V a ∧ rch (pG V G f) (pE V E f) k c (f a)
  | 0, c, a, h => ⟨h.1.1, ⟨a, h.1.1, h.1.2, rfl⟩, h.2⟩
  | k + 1, c, a, h => by
    obtain ⟨r, w, c', hr, ⟨v1, v2, he⟩, e⟩ := h
    exact ⟨v2, f r, w, c', (push_to k c' r hr).2, ⟨r, a, v1, v2, he, rfl, rfl⟩, e⟩
theorem push_of (hf : ∀ a b, V a → V b → f a = f b → a = b) : ∀ k c s, rch (pG V G f) (pE V E f) k c s → ∃ a, V a ∧ f a = s ∧ rch (vG V G) (vE V E) k c a
  | 0, c, s, h => by
    obtain ⟨⟨a, v, g, e⟩, h0⟩ := h
    exact ⟨a, v, e, ⟨v, g⟩, h0⟩
  | k + 1, c, s, h => by
    obtain ⟨r, w, c', hr, ⟨a, b, v1, v2, he, e1, e2⟩, e⟩ := h
    obtain ⟨a', v', e', h'⟩ := push_of hf k c' r hr
    have : a' = a := hf a' a v' v1 (by rw [e', e1])
    subst this
    exact ⟨b, v2, e2, a', w, c', h', ⟨v1, v2, he⟩, e⟩
theorem push_isD (hf : ∀ a b, V a → V b → f a = f b → a = b) {c : Nat} {a : α} (ha : V a) : isD (pG V G f) (pE V E f) c (f a) ↔ isD (vG V G) (vE V E) c a := by
  have back : ∀ k c, rch (pG V G f) (pE V E f) k c (f a) → rch (vG V G) (vE V E) k c a := fun k c h => by
    obtain ⟨b, v, e, h'⟩ := push_of V G E f hf k c _ h
    have : b = a := hf b a v ha e
    subst this
    exact h'
  constructor
  · intro ⟨⟨k, hk⟩, h⟩
    exact ⟨⟨k, back k c hk⟩, fun k' c' h' => h k' c' (push_to V G E f k' c' a h').2⟩
  · intro ⟨⟨k, hk⟩, h⟩
    exact ⟨⟨k, (push_to V G E f k c a hk).2⟩, fun k' c' h' => h k' c' (back k' c' h')⟩
end PU
