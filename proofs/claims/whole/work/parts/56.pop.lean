/-! taking the nearest -/
section PP
variable (G : Nat → Prop) (E : Nat → Nat → Nat → Prop)
variable {N lv : Nat} {c : Nat → Nat} {T M : List (Nat × Nat)} {hT hM s kk : Nat}
/-- the first of a queue costs no more than what waits in it -/
theorem first_le {w h u : Nat} {Q : List (Nat × Nat)} (hq : que N w lv c Q) (hu : wai c Q h u) : ∃ a, Q[h]? = some a ∧ c a.1 ≤ c u := by
  obtain ⟨i, h1, h2⟩ := hu
  have hi := (List.getElem?_eq_some_iff.mp h2).1
  have hh := List.getElem?_eq_getElem (show h < Q.length by omega)
  refine ⟨_, hh, ?_⟩
  have a := hq.1 h i _ _ h1 hh h2
  have b := (hq.2.1 _ (List.mem_of_getElem? hh)).1
  have a' : (Q[h]).2 ≤ c u := a
  omega
theorem pop_T (h : srch G E N lv c T M hT hM (fun _ => False)) (hf : T[hT]? = some (s, kk)) (hn : ∀ a, M[hM]? = some a → c s ≤ c a.1) (hb : c s < 1000000000) : (xpd E c s ∧ srch G E N lv c T M (hT + 1) hM (fun _ => False)) ∨ (lv ≤ c s ∧ srch G E N (c s) c T M (hT + 1) hM (fun u => u = s)) := by
  obtain ⟨h1, h2, h3, h4, h5, h6, h7⟩ := h
  have hl := (List.getElem?_eq_some_iff.mp hf).1
  have mv : ∀ u, u ≠ s → wai c T hT u → wai c T (hT + 1) u := fun u hu ⟨i, i1, i2⟩ => by
    by_cases e : i = hT
    · subst e
      rw [hf] at i2
      cases i2
      exact absurd rfl hu
    · exact ⟨i, by omega, i2⟩
  have least : ∀ u, (wai c T hT u ∨ wai c M hM u) → c s ≤ c u := fun u hu => by
    rcases hu with z | z
    · obtain ⟨a, a1, a2⟩ := first_le h3 z
      rw [hf] at a1
      cases a1
      exact a2
    · obtain ⟨a, a1, a2⟩ := first_le h4 z
      exact Nat.le_trans (hn a a1) a2
  rcases h7 s hb (fun z => z) with z | ⟨z1, z2⟩
  · refine Or.inl ⟨z, h1, h2, h3, h4, by omega, h6, fun u hu _ => ?_⟩
    by_cases e : u = s
    · subst e; exact Or.inl z
    · rcases h7 u hu (fun z => z) with y | ⟨y1, y2⟩
      · exact Or.inl y
      · exact Or.inr ⟨y1, y2.imp (mv u e) id⟩
  · refine Or.inr ⟨z1, h1, h2, h3.lv z1, h4.lv z1, by omega, h6, fun u hu e => ?_⟩
    rcases h7 u hu (fun z => z) with y | ⟨y1, y2⟩
    · exact Or.inl y
    · exact Or.inr ⟨least u y2, y2.imp (mv u e) id⟩
theorem pop_M (h : srch G E N lv c T M hT hM (fun _ => False)) (hf : M[hM]? = some (s, kk)) (hn : ∀ a, T[hT]? = some a → c s ≤ c a.1) (hb : c s < 1000000000) : (xpd E c s ∧ srch G E N lv c T M hT (hM + 1) (fun _ => False)) ∨ (lv ≤ c s ∧ srch G E N (c s) c T M hT (hM + 1) (fun u => u = s)) := by
  obtain ⟨h1, h2, h3, h4, h5, h6, h7⟩ := h
  have hl := (List.getElem?_eq_some_iff.mp hf).1
  have mv : ∀ u, u ≠ s → wai c M hM u → wai c M (hM + 1) u := fun u hu ⟨i, i1, i2⟩ => by
    by_cases e : i = hM
    · subst e
      rw [hf] at i2
      cases i2
      exact absurd rfl hu
    · exact ⟨i, by omega, i2⟩
  have least : ∀ u, (wai c T hT u ∨ wai c M hM u) → c s ≤ c u := fun u hu => by
    rcases hu with z | z
    · obtain ⟨a, a1, a2⟩ := first_le h3 z
      exact Nat.le_trans (hn a a1) a2
    · obtain ⟨a, a1, a2⟩ := first_le h4 z
      rw [hf] at a1
      cases a1
      exact a2
  rcases h7 s hb (fun z => z) with z | ⟨z1, z2⟩
  · refine Or.inl ⟨z, h1, h2, h3, h4, h5, by omega, fun u hu _ => ?_⟩
    by_cases e : u = s
    · subst e; exact Or.inl z
    · rcases h7 u hu (fun z => z) with y | ⟨y1, y2⟩
      · exact Or.inl y
      · exact Or.inr ⟨y1, y2.imp id (mv u e)⟩
  · refine Or.inr ⟨z1, h1, h2, h3.lv z1, h4.lv z1, h5, by omega, fun u hu e => ?_⟩
    rcases h7 u hu (fun z => z) with y | ⟨y1, y2⟩
    · exact Or.inl y
    · exact Or.inr ⟨least u y2, y2.imp id (mv u e)⟩
/-- all edges of s done: s is expanded -/
theorem srch_done (h : srch G E N lv c T M hT hM (fun u => u = s)) (hx : xpd E c s) : srch G E N lv c T M hT hM (fun _ => False) := by
  obtain ⟨h1, h2, h3, h4, h5, h6, h7⟩ := h
  refine ⟨h1, h2, h3, h4, h5, h6, fun u hu _ => ?_⟩
  by_cases e : u = s
  · subst e; exact Or.inl hx
  · exact h7 u hu e
/-- at the stop, what costs less than both firsts is settled -/
theorem srch_stop {l : Nat} (h : srch G E N lv c T M hT hM (fun _ => False)) (hl : l ≤ 1000000000) (hTl : ∀ a, T[hT]? = some a → l ≤ c a.1) (hMl : ∀ a, M[hM]? = some a → l ≤ c a.1) : ∀ u t w, c u < l → E u t w → c t ≤ c u + w := by
  obtain ⟨h1, h2, h3, h4, h5, h6, h7⟩ := h
  intro u t w hu he
  rcases h7 u (by omega) (fun z => z) with z | ⟨-, z⟩
  · exact z t w he
  · rcases z with z | z
    · obtain ⟨a, a1, a2⟩ := first_le h3 z
      have := hTl a a1
      omega
    · obtain ⟨a, a1, a2⟩ := first_le h4 z
      have := hMl a a1
      omega
end PP
