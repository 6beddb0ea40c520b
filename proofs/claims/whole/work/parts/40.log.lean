/-! the log -/
def addL (L : List Nat) (c : Nat) : List Nat := (if L.length < 40 then L else L.drop 1) ++ [c]
def lgS (L : List Nat) (x : Int32) (f : Nat → Int32) : Prop := L.length ≤ 40 ∧ x = nI L.length ∧ ∀ (i c : Nat), L[i]? = some c → f i = nI c
theorem lgC.c {L : List Nat} {m k : Mu} (h : lgC L m k) : lgS L (m 2 1) (m 0) := ⟨h.1, h.2.1, fun i c hi => (h.2.2.2 i c hi).1⟩
theorem lgC.r {L : List Nat} {m k : Mu} (h : lgC L m k) : lgS L (k 32 4) (k 5) := ⟨h.1, h.2.2.1, fun i c hi => (h.2.2.2 i c hi).2⟩
theorem lgC.mk {L : List Nat} {m k : Mu} (h : lgS L (m 2 1) (m 0)) (h2 : lgS L (k 32 4) (k 5)) : lgC L m k := ⟨h.1, h.2.1, h2.2.1, fun i c hi => ⟨h.2.2 i c hi, h2.2.2 i c hi⟩⟩
theorem lgS.add {L : List Nat} {x : Int32} {f : Nat → Int32} (c : Nat) (h : lgS L x f) (hl : L.length < 40) : lgS (L ++ [c]) (x + 1) (upd f L.length (nI c)) := by
  obtain ⟨h1, h2, h3⟩ := h
  refine ⟨by simp; omega, by rw [h2, nI_1]; simp, fun i d hi => ?_⟩
  by_cases hil : i = L.length
  · subst hil
    rw [pu_u]
    simp at hi
    rw [hi]
  · rw [pu_un _ _ hil]
    refine h3 i d ?_
    have := (List.getElem?_eq_some_iff.mp hi).1
    simp at this
    rw [List.getElem?_append_left (by omega)] at hi
    exact hi
theorem lgS.cut {L : List Nat} {x : Int32} {f : Nat → Int32} (h : lgS L x f) (hl : ¬ L.length < 40) : lgS (L.drop 1) 39 (sh_d f 0 0 39) := by
  obtain ⟨h1, h2, h3⟩ := h
  have e : L.length = 40 := by omega
  have e2 : (L.drop 1).length = 39 := by simp [e]
  refine ⟨by omega, by rw [e2]; rfl, fun i d hi => ?_⟩
  have hi2 := (List.getElem?_eq_some_iff.mp hi).1
  rw [List.getElem?_drop] at hi
  unfold sh_d
  rw [if_pos (by omega), Nat.add_comm i 1]
  exact h3 _ d hi
section LG
variable {m : Mu} {K : Mu → Prop} {L : List Nat} {c : Nat}
theorem t0_jn (h : lgS L (m 2 1) (m 0)) (hl : L.length < 40) (hK : ∀ m', lgS (L ++ [c]) (m' 2 1) (m' 0) → K m') : jnX0_append_43 K (nI c) m := by
  have h2 := h.2.1
  unfold jnX0_append_43
  refine ⟨fun z => ?_, fun _ => ⟨?_, fun m3 e3 m4 e4 => hK m4 ?_⟩⟩
  · rw [h2] at z; exact absurd z (nI_pos (by omega))
  · rw [h2]; exact vp_in_nI hl (by decide)
  · rw [h2, nI_clamp (by omega)] at e3
    rw [e4, pu_up, pu_u, pu_upn _ _ _ (by decide), e3, pu_up, pu_upn _ _ _ (by decide)]
    exact h.add c hl
theorem t0_loop (hK : ∀ m', m' 0 = sh_d (m 0) 0 0 39 → m' 2 = upd (m 2) 1 39 → jnX0_append_43 K (nI c) m') : ∀ d j, j + d = 39 → lpX0_append_11 K (d + 1) (nI c) (nI (j + 1)) (mu_set m 0 (sh_d (m 0) 0 0 j)) := by
  intro d
  induction d with
  | zero =>
    intro j hj
    have e : j = 39 := by omega
    subst e
    unfold lpX0_append_11
    refine ⟨fun _ m6 e6 => hK m6 ?_ ?_, fun z => absurd (Int32.le_refl _) z⟩
    · rw [e6, pu_upn _ _ _ (by decide), pu_same]
    · rw [e6, pu_up, pu_ne _ _ (by decide)]
  | succ d ih =>
    intro j hj
    unfold lpX0_append_11
    rw [nI_pred]
    refine ⟨fun z => absurd z (nI_ge (b := 40) (by omega) (by decide)), fun _ => ⟨vp_in_nI (by omega) (by decide), vp_in_nI (by omega) (by decide), fun m7 e7 x8 e8 => ?_⟩⟩
    rw [nI_clamp (by omega), nI_clamp (by omega), pu_same] at e7
    have em : m7 = mu_set m 0 (sh_d (m 0) 0 0 (j + 1)) := by
      rw [e7]
      funext a
      by_cases ha : a = 0
      · subst ha
        rw [pu_up, pu_same, pu_same, ← sh_dS _ _ _ _ (Nat.zero_le j)]
        simp only [Nat.zero_add]
      · rw [pu_upn _ _ _ ha, pu_ne _ _ ha, pu_ne _ _ ha]
    rw [e8, nI_1, em]
    exact ih (j + 1) (by omega)
theorem t0_append (h : lgS L (m 2 1) (m 0)) (hK : ∀ m', lgS (addL L c) (m' 2 1) (m' 0) → K m') : wX0_append (nI c) m K := by
  unfold addL at hK
  have h1 := h.1
  unfold wX0_append
  rw [h.2.1]
  by_cases hl : L.length < 40
  · rw [if_pos hl] at hK
    exact ⟨fun _ => t0_jn h hl hK, fun z => absurd (nI_lt (b := 40) hl (by decide)) z⟩
  · rw [if_neg hl] at hK
    refine ⟨fun z => absurd z (nI_nlt (b := 40) (by omega) (by omega)), fun _ => ⟨40, ?_⟩⟩
    have := t0_loop (m := m) (K := K) (c := c) (fun m' g1 g2 => t0_jn (L := L.drop 1) (by rw [g1, g2, pu_u]; exact h.cut hl) (by simp; omega) hK) 39 0 (by decide)
    rw [sh_d0, mu_set_self] at this
    exact this
theorem t5_wjn (h : lgS L (m 32 4) (m 5)) (hl : L.length < 40) (hK : ∀ m', lgS (L ++ [c]) (m' 32 4) (m' 5) → (∀ a, a ≠ 5 → a ≠ 32 → m' a = m a) → (∀ i, i ≠ 4 → m' 32 i = m 32 i) → K m') : jnX5_write_47 K (nI c) m := by
  have h2 := h.2.1
  unfold jnX5_write_47
  refine ⟨?_, fun m3 e3 m4 e4 => hK m4 ?_ (fun a h5 h32 => ?_) (fun i hi => ?_)⟩
  · rw [h2]; exact vp_in_nI hl (by decide)
  · rw [h2, nI_clamp (by omega)] at e3
    rw [e4, pu_up, pu_u, pu_upn _ _ _ (by decide), e3, pu_up, pu_upn _ _ _ (by decide)]
    exact h.add c hl
  · rw [e4, pu_upn _ _ _ h32, e3, pu_upn _ _ _ h5]
  · rw [e4, pu_up, pu_un _ _ hi, e3, pu_upn _ _ _ (by decide)]
theorem t5_wloop (h40 : m 32 4 = 40) (hK : ∀ m', m' 5 = sh_d (m 5) 0 0 39 → m' 32 = upd (m 32) 4 39 → (∀ a, a ≠ 5 → a ≠ 32 → m' a = m a) → jnX5_write_47 K (nI c) m') : ∀ d j, j + d = 39 → lpX5_write_11 K (d + 1) (nI c) (nI (j + 1)) (mu_set m 5 (sh_d (m 5) 0 0 j)) := by
  intro d
  induction d with
  | zero =>
    intro j hj
    have e : j = 39 := by omega
    subst e
    unfold lpX5_write_11
    refine ⟨fun _ m6 e6 => hK m6 ?_ ?_ (fun a h5 h32 => ?_), fun z => absurd (Int32.le_refl _) z⟩
    · rw [e6, pu_upn _ _ _ (by decide), pu_same]
    · rw [e6, pu_up, pu_ne _ _ (by decide), h40]
      rfl
    · rw [e6, pu_upn _ _ _ h32, pu_ne _ _ h5]
  | succ d ih =>
    intro j hj
    unfold lpX5_write_11
    rw [nI_pred]
    refine ⟨fun z => absurd z (nI_ge (b := 40) (by omega) (by decide)), fun _ => ⟨vp_in_nI (by omega) (by decide), vp_in_nI (by omega) (by decide), fun m7 e7 x8 e8 => ?_⟩⟩
    rw [nI_clamp (by omega), nI_clamp (by omega), pu_same] at e7
    have em : m7 = mu_set m 5 (sh_d (m 5) 0 0 (j + 1)) := by
      rw [e7]
      funext a
      by_cases ha : a = 5
      · subst ha
        rw [pu_up, pu_same, pu_same, ← sh_dS _ _ _ _ (Nat.zero_le j)]
        simp only [Nat.zero_add]
      · rw [pu_upn _ _ _ ha, pu_ne _ _ ha, pu_ne _ _ ha]
    rw [e8, nI_1, em]
    exact ih (j + 1) (by omega)
theorem t5_write (h : lgS L (m 32 4) (m 5)) (hK : ∀ m', lgS (addL L c) (m' 32 4) (m' 5) → (∀ a, a ≠ 5 → a ≠ 32 → m' a = m a) → (∀ i, i ≠ 4 → m' 32 i = m 32 i) → K m') : wX5_write (nI c) m K := by
  unfold addL at hK
  have h1 := h.1
  unfold wX5_write
  by_cases hl : L.length < 40
  · rw [if_pos hl] at hK
    refine ⟨fun z => ?_, fun _ => t5_wjn h hl hK⟩
    rw [h.2.1] at z
    have := (nI_eq (by omega) (b := 40) (by decide)).mp z
    omega
  · rw [if_neg hl] at hK
    have e40 : m 32 4 = 40 := by rw [h.2.1, show L.length = 40 by omega]; rfl
    refine ⟨fun _ => ⟨40, ?_⟩, fun z => absurd e40 z⟩
    have := t5_wloop (m := m) (K := K) (c := c) e40 (fun m' g1 g2 g3 => t5_wjn (L := L.drop 1) (by rw [g1, g2, pu_u]; exact h.cut hl) (by simp; omega) (fun m2 k1 k2 k3 => hK m2 k1 (fun a h5 h32 => (k2 a h5 h32).trans (g3 a h5 h32)) (fun i hi => by rw [k3 i hi, g2, pu_un _ _ hi]))) 39 0 (by decide)
    rw [sh_d0, mu_set_self] at this
    exact this
end LG
theorem und_pre {len siz : Nat → Nat} {n : Nat} : ∀ (a b : List Nat) (ang : Nat) (row : Nat → List Nat), und len siz n (a ++ b) ang row → und len siz n a ang row
  | [], _, _, _, _ => trivial
  | c :: cs, b, ang, row, h => by
    have h' : und len siz n (c :: (cs ++ b)) ang row := h
    unfold und at h' ⊢
    rcases h' with ⟨h1, h2⟩ | ⟨h1, h2⟩ | ⟨kd, k, g1, g2, g3, g4, g5, g6, g7⟩
    · exact Or.inl ⟨h1, und_pre cs b _ _ h2⟩
    · exact Or.inr (Or.inl ⟨h1, und_pre cs b _ _ h2⟩)
    · exact Or.inr (Or.inr ⟨kd, k, g1, g2, g3, g4, g5, g6, und_pre cs b _ _ g7⟩)
theorem und_cut {len siz : Nat → Nat} {n ang : Nat} {row : Nat → List Nat} {L : List Nat} (h : und len siz n L.reverse ang row) : und len siz n (if L.length < 40 then L else L.drop 1).reverse ang row := by
  by_cases hl : L.length < 40
  · rw [if_pos hl]; exact h
  · rw [if_neg hl]
    cases L with
    | nil => exact absurd (by decide : (0 : Nat) < 40) hl
    | cons x xs =>
      rw [List.reverse_cons] at h
      exact und_pre _ _ _ _ h
theorem addL_rev (L : List Nat) (c : Nat) : (addL L c).reverse = c :: (if L.length < 40 then L else L.drop 1).reverse := by
  unfold addL
  rw [List.reverse_append]
  rfl
