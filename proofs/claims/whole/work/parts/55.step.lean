/-! one step of the search -/
section ST
variable (G : Nat → Prop) (E : Nat → Nat → Nat → Prop)
def srch (N lv : Nat) (c : Nat → Nat) (T M : List (Nat × Nat)) (hT hM : Nat) (x : Nat → Prop) : Prop := (∀ s, G s → c s = 0) ∧ (∀ s, c s < 1000000000 → ∃ k, rch G E k (c s) s) ∧ que N 10001 lv c T ∧ que N 1 lv c M ∧ hT ≤ T.length ∧ hM ≤ M.length ∧ (∀ s, c s < 1000000000 → ¬ x s → xpd E c s ∨ (lv ≤ c s ∧ (wai c T hT s ∨ wai c M hM s)))
variable {N lv : Nat} {c : Nat → Nat} {T M : List (Nat × Nat)} {hT hM s t w : Nat}
theorem up_low (hc : lv + w < c t) : ∀ u, va_up c t (lv + w) u ≤ c u := fun u => by
  by_cases e : u = t
  · subst e; rw [va_up_self]; omega
  · rw [va_up_ne _ _ e]; exact Nat.le_refl _
theorem wai.app {c c' : Nat → Nat} {T : List (Nat × Nat)} {h u : Nat} (X : List (Nat × Nat)) (hw : wai c T h u) (e : c' u = c u) : wai c' (T ++ X) h u := by
  obtain ⟨i, h1, h2⟩ := hw
  have := (List.getElem?_eq_some_iff.mp h2).1
  exact ⟨i, h1, by rw [List.getElem?_append_left this, e]; exact h2⟩
theorem imp_core (h : srch G E N lv c T M hT hM (fun u => u = s)) (hs : c s = lv) (hb : c s < 1000000000) (he : E s t w) (hc : lv + w < c t) (T' M' : List (Nat × Nat)) (hqT : que N 10001 lv (va_up c t (lv + w)) T') (hqM : que N 1 lv (va_up c t (lv + w)) M') (lT : hT ≤ T'.length) (lM : hM ≤ M'.length) (eT : ∃ X, T' = T ++ X) (eM : ∃ X, M' = M ++ X) (hw : wai (va_up c t (lv + w)) T' hT t ∨ wai (va_up c t (lv + w)) M' hM t) : srch G E N lv (va_up c t (lv + w)) T' M' hT hM (fun u => u = s) := by
  obtain ⟨h1, h2, h3, h4, h5, h6, h7⟩ := h
  obtain ⟨X, eT⟩ := eT
  obtain ⟨Y, eM⟩ := eM
  have hlow := up_low hc
  refine ⟨fun u hu => ?_, fun u hu => ?_, hqT, hqM, lT, lM, fun u hu hx => ?_⟩
  · by_cases e : u = t
    · subst e
      have := h1 u hu
      omega
    · rw [va_up_ne _ _ e]; exact h1 u hu
  · by_cases e : u = t
    · subst e
      rw [va_up_self]
      obtain ⟨k, hk⟩ := h2 s hb
      exact ⟨k + 1, s, w, c s, hk, he, by rw [hs]⟩
    · rw [va_up_ne _ _ e] at hu ⊢
      exact h2 u hu
  · by_cases e : u = t
    · subst e
      exact Or.inr ⟨by rw [va_up_self]; omega, hw⟩
    · have eu : va_up c t (lv + w) u = c u := va_up_ne _ _ e
      rw [eu] at hu
      rcases h7 u hu hx with z | ⟨z1, z2⟩
      · refine Or.inl (fun v w' hv => ?_)
        rw [eu]
        exact Nat.le_trans (hlow v) (z v w' hv)
      · refine Or.inr ⟨by rw [eu]; exact z1, ?_⟩
        rcases z2 with z | z
        · exact Or.inl (by rw [eT]; exact z.app X eu)
        · exact Or.inr (by rw [eM]; exact z.app Y eu)
theorem imp_T (h : srch G E N lv c T M hT hM (fun u => u = s)) (hs : c s = lv) (hb : c s < 1000000000) (he : E s t 10001) (ht : t < N) (hc : lv + 10001 < c t) : srch G E N lv (va_up c t (lv + 10001)) (T ++ [(t, lv + 10001)]) M hT hM (fun u => u = s) := by
  obtain ⟨h1, h2, h3, h4, h5, h6, h7⟩ := id h
  refine imp_core G E h hs hb he hc _ _ (h3.push ht hc) (h4.low (up_low hc)) (by simp; omega) h6 ⟨_, rfl⟩ ⟨[], by simp⟩ (Or.inl ⟨T.length, h5, ?_⟩)
  rw [va_up_self]
  simp
theorem imp_M (h : srch G E N lv c T M hT hM (fun u => u = s)) (hs : c s = lv) (hb : c s < 1000000000) (he : E s t 1) (ht : t < N) (hc : lv + 1 < c t) : srch G E N lv (va_up c t (lv + 1)) T (M ++ [(t, lv + 1)]) hT hM (fun u => u = s) := by
  obtain ⟨h1, h2, h3, h4, h5, h6, h7⟩ := id h
  refine imp_core G E h hs hb he hc _ _ (h3.low (up_low hc)) (h4.push ht hc) h5 (by simp; omega) ⟨[], by simp⟩ ⟨_, rfl⟩ (Or.inr ⟨M.length, h6, ?_⟩)
  rw [va_up_self]
  simp
end ST
