/-! the class's search, as lists -/
section SR
variable (G : Nat → Prop) (E : Nat → Nat → Nat → Prop)
/-- one queue: what was ever put in, with its cost then -/
def que (N w lv : Nat) (c : Nat → Nat) (T : List (Nat × Nat)) : Prop := (∀ (i j : Nat) (a b : Nat × Nat), i ≤ j → T[i]? = some a → T[j]? = some b → a.2 ≤ b.2) ∧ (∀ a ∈ T, c a.1 ≤ a.2 ∧ a.2 ≤ lv + w ∧ a.1 < N) ∧ (T.map Prod.fst).Nodup
/-- s waits in a queue -/
def wai (c : Nat → Nat) (T : List (Nat × Nat)) (h s : Nat) : Prop := ∃ i, h ≤ i ∧ T[i]? = some (s, c s)
/-- s is done with -/
def xpd (c : Nat → Nat) (s : Nat) : Prop := ∀ t w, E s t w → c t ≤ c s + w
theorem que.len {N w lv : Nat} {c : Nat → Nat} {T : List (Nat × Nat)} (h : que N w lv c T) : T.length ≤ N := by
  have := few N (T.map Prod.fst) h.2.2 (fun x hx => by
    obtain ⟨a, ha, rfl⟩ := List.mem_map.mp hx
    exact (h.2.1 a ha).2.2)
  simpa using this
theorem que.lv {N w lv lv' : Nat} {c : Nat → Nat} {T : List (Nat × Nat)} (h : que N w lv c T) (hl : lv ≤ lv') : que N w lv' c T := ⟨h.1, fun a ha => ⟨(h.2.1 a ha).1, by have := (h.2.1 a ha).2.1; omega, (h.2.1 a ha).2.2⟩, h.2.2⟩
theorem que.low {N w lv : Nat} {c c' : Nat → Nat} {T : List (Nat × Nat)} (h : que N w lv c T) (hc : ∀ s, c' s ≤ c s) : que N w lv c' T := ⟨h.1, fun a ha => ⟨Nat.le_trans (hc _) (h.2.1 a ha).1, (h.2.1 a ha).2⟩, h.2.2⟩
theorem que.push {N w lv t : Nat} {c : Nat → Nat} {T : List (Nat × Nat)} (h : que N w lv c T) (ht : t < N) (hc : lv + w < c t) : que N w lv (va_up c t (lv + w)) (T ++ [(t, lv + w)]) := by
  have hlow : ∀ s, va_up c t (lv + w) s ≤ c s := fun s => by
    by_cases e : s = t
    · subst e; rw [va_up_self]; omega
    · rw [va_up_ne _ _ e]; exact Nat.le_refl _
  have hnot : t ∉ T.map Prod.fst := fun hm => by
    obtain ⟨a, ha, rfl⟩ := List.mem_map.mp hm
    have := h.2.1 a ha
    omega
  have hget : ∀ i a, (T ++ [(t, lv + w)])[i]? = some a → (T[i]? = some a) ∨ (i = T.length ∧ a = (t, lv + w)) := by
    intro i a hi
    by_cases hl : i < T.length
    · rw [List.getElem?_append_left hl] at hi
      exact Or.inl hi
    · have h2 := (List.getElem?_eq_some_iff.mp hi).1
      simp at h2
      have e : i = T.length := by omega
      subst e
      simp at hi
      exact Or.inr ⟨rfl, hi.symm⟩
  refine ⟨fun i j a b hij ha hb => ?_, fun a ha => ?_, ?_⟩
  · rcases hget i a ha with p | ⟨p1, p2⟩ <;> rcases hget j b hb with q | ⟨q1, q2⟩
    · exact h.1 i j a b hij p q
    · rw [q2]
      exact (h.2.1 a (List.mem_of_getElem? p)).2.1
    · have := (List.getElem?_eq_some_iff.mp q).1
      omega
    · rw [p2, q2]; exact Nat.le_refl _
  · rcases List.mem_append.mp ha with p | p
    · exact ⟨Nat.le_trans (hlow _) (h.2.1 a p).1, (h.2.1 a p).2⟩
    · simp at p
      subst p
      exact ⟨by rw [va_up_self]; exact Nat.le_refl _, Nat.le_refl _, ht⟩
  · rw [List.map_append]
    refine List.nodup_append.mpr ⟨h.2.2, by simp, fun a ha b hb e => ?_⟩
    simp at hb
    subst hb
    subst e
    exact hnot ha
end SR
