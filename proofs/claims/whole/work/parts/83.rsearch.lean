/-! the reference's search by levels, as lists -/
section RS
variable (G : Nat → Prop) (E : Nat → Nat → Nat → Prop)
def cst (tu ac : Nat → Nat) (s : Nat) : Nat := 10000 * tu s + ac s
/-- a queue of the level L: situations with their actions -/
def lvQ (L N k : Nat) (Q : List (Nat × Nat)) : Prop := (∀ (i j : Nat) (a b : Nat × Nat), i ≤ j → Q[i]? = some a → Q[j]? = some b → a.2 ≤ b.2) ∧ (Q.map Prod.fst).Nodup ∧ ∀ x ∈ Q, x.1 < N ∧ x.2 ≤ k ∧ ∃ j, rch G E j (10000 * L + x.2) x.1
/-- u is done, or will be, at a cost of at most k -/
def cov (L : Nat) (A : List Nat) (tu ac : Nat → Nat) (T M : List (Nat × Nat)) (u k : Nat) : Prop := (u ∈ A ∧ cst tu ac u ≤ k) ∨ (∃ x ∈ T, x.1 = u ∧ 10000 * L + x.2 ≤ k) ∨ ∃ x ∈ M, x.1 = u ∧ 10000 * L + x.2 ≤ k
def lvS (N L κ : Nat) (A : List Nat) (tu ac : Nat → Nat) (T M : List (Nat × Nat)) (t m : Nat) (D : List Nat) (ex : Nat → Prop) : Prop :=
  (A.Nodup ∧ ∀ s ∈ A, s < N) ∧
  (∀ s ∈ A, (∃ j, rch G E j (cst tu ac s) s) ∧ tu s ≤ L ∧ ac s < A.length ∧ cst tu ac s ≤ 10000 * L + κ) ∧
  (lvQ G E L N A.length T ∧ lvQ G E L N A.length M ∧ ∀ x ∈ M, x.2 ≤ κ + 1) ∧
  (t ≤ T.length ∧ m ≤ M.length ∧ (∀ (i : Nat) (x : Nat × Nat), t ≤ i → T[i]? = some x → κ ≤ x.2) ∧ ∀ (i : Nat) (x : Nat × Nat), m ≤ i → M[i]? = some x → κ ≤ x.2) ∧
  ((∀ (i : Nat) (x : Nat × Nat), i < t → T[i]? = some x → x.1 ∈ A ∧ cst tu ac x.1 ≤ 10000 * L + x.2) ∧ ∀ (i : Nat) (x : Nat × Nat), i < m → M[i]? = some x → x.1 ∈ A ∧ cst tu ac x.1 ≤ 10000 * L + x.2) ∧
  (∀ s ∈ A, ¬ ex s → ∀ u, E s u 1 → cov L A tu ac T M u (cst tu ac s + 1)) ∧
  (∀ s ∈ A, tu s < L → ∀ u, E s u 10001 → cov L A tu ac T M u (cst tu ac s + 10001)) ∧
  (∀ g, G g → cov L A tu ac T M g 0) ∧
  ((∀ s ∈ A, tu s = L → s ∈ D) ∧ (∀ s ∈ D, s ∈ A ∧ tu s = L) ∧ D.Nodup ∧ ∀ (i j : Nat) (a b : Nat), i ≤ j → D[i]? = some a → D[j]? = some b → ac a ≤ ac b)
variable {N L κ : Nat} {A : List Nat} {tu ac : Nat → Nat} {T M : List (Nat × Nat)} {t m : Nat} {D : List Nat} {s k : Nat}
theorem lvQ.len {Q : List (Nat × Nat)} (h : lvQ G E L N k Q) : Q.length ≤ N := by
  have := few N (Q.map Prod.fst) h.2.1 (fun x hx => by
    obtain ⟨a, ha, rfl⟩ := List.mem_map.mp hx
    exact (h.2.2 a ha).1)
  simpa using this
theorem lvQ.mono {Q : List (Nat × Nat)} {k' : Nat} (h : lvQ G E L N k Q) (hk : k ≤ k') : lvQ G E L N k' Q := ⟨h.1, h.2.1, fun x hx => ⟨(h.2.2 x hx).1, Nat.le_trans (h.2.2 x hx).2.1 hk, (h.2.2 x hx).2.2⟩⟩
theorem lvQ.push {Q : List (Nat × Nat)} {u y : Nat} (h : lvQ G E L N k Q) (hu : u < N) (hy : y ≤ k) (hno : u ∉ Q.map Prod.fst) (hle : ∀ x ∈ Q, x.2 ≤ y) (hp : ∃ j, rch G E j (10000 * L + y) u) : lvQ G E L N k (Q ++ [(u, y)]) := by
  have hget : ∀ i a, (Q ++ [(u, y)])[i]? = some a → (Q[i]? = some a) ∨ (i = Q.length ∧ a = (u, y)) := by
    intro i a hi
    by_cases hl : i < Q.length
    · rw [List.getElem?_append_left hl] at hi
      exact Or.inl hi
    · have h2 := (List.getElem?_eq_some_iff.mp hi).1
      simp at h2
      have e : i = Q.length := by omega
      subst e
      simp at hi
      exact Or.inr ⟨rfl, hi.symm⟩
  refine ⟨fun i j a b hij ha hb => ?_, ?_, fun x hx => ?_⟩
  · rcases hget i a ha with p | ⟨p1, p2⟩ <;> rcases hget j b hb with q | ⟨q1, q2⟩
    · exact h.1 i j a b hij p q
    · rw [q2]; exact hle a (List.mem_of_getElem? p)
    · have := (List.getElem?_eq_some_iff.mp q).1
      omega
    · rw [p2, q2]; exact Nat.le_refl _
  · rw [List.map_append]
    refine List.nodup_append.mpr ⟨h.2.1, by simp, fun a ha b hb e => ?_⟩
    simp at hb
    subst hb
    subst e
    exact hno ha
  · rcases List.mem_append.mp hx with p | p
    · exact h.2.2 x p
    · simp at p
      subst p
      exact ⟨hu, hy, hp⟩
/-- s was taken from a queue, and is done already -/
theorem lv_done (h : lvS G E N L κ A tu ac T M t m D (fun _ => False)) (hs : s ∈ A) {t' m' : Nat} (hκ : κ ≤ k) (ht : t' ≤ T.length) (hm : m' ≤ M.length) (uT : ∀ (i : Nat) (x : Nat × Nat), t' ≤ i → T[i]? = some x → k ≤ x.2) (uM : ∀ (i : Nat) (x : Nat × Nat), m' ≤ i → M[i]? = some x → k ≤ x.2) (pT : ∀ (i : Nat) (x : Nat × Nat), i < t' → T[i]? = some x → i < t ∨ x = (s, k)) (pM : ∀ (i : Nat) (x : Nat × Nat), i < m' → M[i]? = some x → i < m ∨ x = (s, k)) : lvS G E N L k A tu ac T M t' m' D (fun _ => False) := by
  obtain ⟨h1, h2, ⟨h3, h4, h5⟩, -, ⟨h8, h9⟩, h10⟩ := h
  refine ⟨h1, fun x hx => ?_, ⟨h3, h4, fun x hx => by have := h5 x hx; omega⟩, ⟨ht, hm, uT, uM⟩, ⟨fun i x hi hx => ?_, fun i x hi hx => ?_⟩, h10⟩
  · obtain ⟨a1, a2, a3, a4⟩ := h2 x hx
    exact ⟨a1, a2, a3, by omega⟩
  · rcases pT i x hi hx with z | z
    · exact h8 i x z hx
    · have := (h2 s hs).2.2.2
      rw [z]; exact ⟨hs, by show cst tu ac s ≤ 10000 * L + k; omega⟩
  · rcases pM i x hi hx with z | z
    · exact h9 i x z hx
    · have := (h2 s hs).2.2.2
      rw [z]; exact ⟨hs, by show cst tu ac s ≤ 10000 * L + k; omega⟩
/-- s was taken from a queue, and is done now -/
theorem lv_fin (h : lvS G E N L κ A tu ac T M t m D (fun _ => False)) (hs : s ∉ A) (hsN : s < N) (hk : k ≤ A.length) (hp : ∃ j, rch G E j (10000 * L + k) s) {t' m' : Nat} (hκ : κ ≤ k) (ht : t' ≤ T.length) (hm : m' ≤ M.length) (uT : ∀ (i : Nat) (x : Nat × Nat), t' ≤ i → T[i]? = some x → k ≤ x.2) (uM : ∀ (i : Nat) (x : Nat × Nat), m' ≤ i → M[i]? = some x → k ≤ x.2) (pT : ∀ (i : Nat) (x : Nat × Nat), i < t' → T[i]? = some x → i < t ∨ x = (s, k)) (pM : ∀ (i : Nat) (x : Nat × Nat), i < m' → M[i]? = some x → i < m ∨ x = (s, k)) : lvS G E N L k (A ++ [s]) (va_up tu s L) (va_up ac s k) T M t' m' (D ++ [s]) (fun u => u = s) ∧ cst (va_up tu s L) (va_up ac s k) s = 10000 * L + k := by
  obtain ⟨⟨h1, h1'⟩, h2, ⟨h3, h4, h5⟩, -, ⟨h8, h9⟩, h10, h11, h12, ⟨d1, d2, d3, d4⟩⟩ := h
  have es : cst (va_up tu s L) (va_up ac s k) s = 10000 * L + k := by unfold cst; rw [va_up_self, va_up_self]
  have old : ∀ x ∈ A, cst (va_up tu s L) (va_up ac s k) x = cst tu ac x ∧ va_up tu s L x = tu x ∧ va_up ac s k x = ac x := fun x hx => by
    have : x ≠ s := fun e => hs (e ▸ hx)
    unfold cst
    rw [va_up_ne _ _ this, va_up_ne _ _ this]
    exact ⟨rfl, rfl, rfl⟩
  have cv : ∀ u y, cov L A tu ac T M u y → cov L (A ++ [s]) (va_up tu s L) (va_up ac s k) T M u y := fun u y hc => by
    rcases hc with ⟨a1, a2⟩ | z
    · exact Or.inl ⟨List.mem_append_left _ a1, by rw [(old u a1).1]; exact a2⟩
    · exact Or.inr z
  have hl : (A ++ [s]).length = A.length + 1 := by simp
  refine ⟨⟨⟨List.nodup_append.mpr ⟨h1, by simp, fun a ha b hb e => ?_⟩, fun x hx => ?_⟩, fun x hx => ?_, ⟨h3.mono G E (by omega), h4.mono G E (by omega), fun x hx => by have := h5 x hx; omega⟩, ⟨ht, hm, uT, uM⟩, ⟨fun i x hi hx => ?_, fun i x hi hx => ?_⟩, fun x hx hex u hu => ?_, fun x hx hlt u hu => ?_, fun g hg => cv g 0 (h12 g hg), ⟨fun x hx hL => ?_, fun x hx => ?_, List.nodup_append.mpr ⟨d3, by simp, fun a ha b hb e => ?_⟩, fun i j a b hij ha hb => ?_⟩⟩, es⟩
  · simp at hb; subst hb; subst e; exact hs ha
  · rcases List.mem_append.mp hx with z | z
    · exact h1' x z
    · simp at z; rw [z]; exact hsN
  · rcases List.mem_append.mp hx with z | z
    · obtain ⟨a1, a2, a3, a4⟩ := h2 x z
      rw [(old x z).1, (old x z).2.1, (old x z).2.2]
      exact ⟨a1, a2, by omega, by omega⟩
    · simp at z
      subst z
      rw [es, va_up_self, va_up_self]
      exact ⟨hp, Nat.le_refl _, by omega, Nat.le_refl _⟩
  · rcases pT i x hi hx with z | z
    · obtain ⟨a1, a2⟩ := h8 i x z hx
      exact ⟨List.mem_append_left _ a1, by rw [(old _ a1).1]; exact a2⟩
    · rw [z]
      exact ⟨by simp, by show cst (va_up tu s L) (va_up ac s k) s ≤ _; rw [es]; exact Nat.le_refl _⟩
  · rcases pM i x hi hx with z | z
    · obtain ⟨a1, a2⟩ := h9 i x z hx
      exact ⟨List.mem_append_left _ a1, by rw [(old _ a1).1]; exact a2⟩
    · rw [z]
      exact ⟨by simp, by show cst (va_up tu s L) (va_up ac s k) s ≤ _; rw [es]; exact Nat.le_refl _⟩
  · rcases List.mem_append.mp hx with z | z
    · rw [(old x z).1]; exact cv u _ (h10 x z (fun q => q) u hu)
    · simp at z; exact absurd z hex
  · rcases List.mem_append.mp hx with z | z
    · rw [(old x z).2.1] at hlt
      rw [(old x z).1]; exact cv u _ (h11 x z hlt u hu)
    · simp at z
      subst z
      rw [va_up_self] at hlt
      omega
  · rcases List.mem_append.mp hx with z | z
    · rw [(old x z).2.1] at hL
      exact List.mem_append_left _ (d1 x z hL)
    · exact List.mem_append_right _ z
  · rcases List.mem_append.mp hx with z | z
    · obtain ⟨a1, a2⟩ := d2 x z
      exact ⟨List.mem_append_left _ a1, by rw [(old x a1).2.1]; exact a2⟩
    · simp at z
      subst z
      exact ⟨by simp, va_up_self _ _ _⟩
  · simp at hb; subst hb; subst e; exact hs (d2 _ ha).1
  · have hget : ∀ i a, (D ++ [s])[i]? = some a → (D[i]? = some a) ∨ (i = D.length ∧ a = s) := by
      intro i a hi
      by_cases hl : i < D.length
      · rw [List.getElem?_append_left hl] at hi
        exact Or.inl hi
      · have h2 := (List.getElem?_eq_some_iff.mp hi).1
        simp at h2
        have e : i = D.length := by omega
        subst e
        simp at hi
        exact Or.inr ⟨rfl, hi.symm⟩
    rcases hget i a ha with p | ⟨p1, p2⟩ <;> rcases hget j b hb with q | ⟨q1, q2⟩
    · have ma := (d2 a (List.mem_of_getElem? p)).1
      have mb := (d2 b (List.mem_of_getElem? q)).1
      rw [(old a ma).2.2, (old b mb).2.2]
      exact d4 i j a b hij p q
    · have ma := d2 a (List.mem_of_getElem? p)
      rw [(old a ma.1).2.2, q2, va_up_self]
      have := (h2 a ma.1).2.2.2
      unfold cst at this
      rw [ma.2] at this
      omega
    · have := (List.getElem?_eq_some_iff.mp q).1
      omega
    · rw [p2, q2]; exact Nat.le_refl _
/-- a neighbour by a movement goes in -/
theorem lv_push {u : Nat} (h : lvS G E N L κ A tu ac T M t m D (fun u => u = s)) (hs : s ∈ A) (hc : cst tu ac s = 10000 * L + κ) (hκ : κ < A.length) (he : E s u 1) (hu : u < N) (hno : u ∉ M.map Prod.fst) : lvS G E N L κ A tu ac T (M ++ [(u, κ + 1)]) t m D (fun u => u = s) := by
  obtain ⟨h1, h2, ⟨h3, h4, h5⟩, ⟨h6a, h6b, h6c, h6d⟩, ⟨h8, h9⟩, h10, h11, h12, h13⟩ := h
  have cv : ∀ v y, cov L A tu ac T M v y → cov L A tu ac T (M ++ [(u, κ + 1)]) v y := fun v y hc => by
    rcases hc with z | z | ⟨x, x1, x2⟩
    · exact Or.inl z
    · exact Or.inr (Or.inl z)
    · exact Or.inr (Or.inr ⟨x, List.mem_append_left _ x1, x2⟩)
  refine ⟨h1, h2, ⟨h3, h4.push G E hu (by omega) hno h5 ?_, fun x hx => ?_⟩, ⟨h6a, by simp; omega, h6c, fun i x hi hx => ?_⟩, ⟨h8, fun i x hi hx => h9 i x hi ?_⟩, fun x hx hex v hv => cv v _ (h10 x hx hex v hv), fun x hx hlt v hv => cv v _ (h11 x hx hlt v hv), fun g hg => cv g 0 (h12 g hg), h13⟩
  · obtain ⟨j, hj⟩ := (h2 s hs).1
    exact ⟨j + 1, s, 1, cst tu ac s, hj, he, by omega⟩
  · rcases List.mem_append.mp hx with z | z
    · exact h5 x z
    · simp at z; subst z; exact Nat.le_refl _
  · by_cases hl : i < M.length
    · rw [List.getElem?_append_left hl] at hx; exact h6d i x hi hx
    · have h2 := (List.getElem?_eq_some_iff.mp hx).1
      simp at h2
      have e : i = M.length := by omega
      subst e
      simp at hx
      rw [← hx]; exact Nat.le_succ _
  · rw [List.getElem?_append_left (by omega)] at hx; exact hx
/-- all neighbours by movements are in -/
theorem lv_exp (h : lvS G E N L κ A tu ac T M t m D (fun u => u = s)) (hall : ∀ u, E s u 1 → cov L A tu ac T M u (cst tu ac s + 1)) : lvS G E N L κ A tu ac T M t m D (fun _ => False) := by
  obtain ⟨h1, h2, h3, h6, h8, h10, h11⟩ := h
  refine ⟨h1, h2, h3, h6, h8, fun x hx _ u hu => ?_, h11⟩
  by_cases e : x = s
  · subst e; exact hall u hu
  · exact h10 x hx e u hu
/-- done, at the end of a level -/
def lvE (N L : Nat) (A : List Nat) (tu ac : Nat → Nat) (D : List Nat) : Prop :=
  (A.Nodup ∧ ∀ s ∈ A, s < N) ∧
  (∀ s ∈ A, (∃ j, rch G E j (cst tu ac s) s) ∧ tu s ≤ L ∧ ac s < A.length) ∧
  (∀ s ∈ A, ∀ u, E s u 1 → u ∈ A ∧ cst tu ac u ≤ cst tu ac s + 1) ∧
  (∀ s ∈ A, tu s < L → ∀ u, E s u 10001 → u ∈ A ∧ cst tu ac u ≤ cst tu ac s + 10001) ∧
  (∀ g, G g → g ∈ A ∧ cst tu ac g = 0) ∧
  ((∀ s ∈ A, tu s = L → s ∈ D) ∧ (∀ s ∈ D, s ∈ A ∧ tu s = L) ∧ D.Nodup ∧ ∀ (i j : Nat) (a b : Nat), i ≤ j → D[i]? = some a → D[j]? = some b → ac a ≤ ac b)
theorem lv_end (h : lvS G E N L κ A tu ac T M T.length M.length D (fun _ => False)) : lvE G E N L A tu ac D := by
  obtain ⟨h1, h2, h3, h6, ⟨h8, h9⟩, h10, h11, h12, h13⟩ := h
  have cv : ∀ u y, cov L A tu ac T M u y → u ∈ A ∧ cst tu ac u ≤ y := fun u y hc => by
    rcases hc with z | ⟨x, x1, x2, x3⟩ | ⟨x, x1, x2, x3⟩
    · exact z
    · obtain ⟨i, hi, ei⟩ := List.getElem_of_mem x1
      obtain ⟨a1, a2⟩ := h8 i x hi (by rw [List.getElem?_eq_getElem hi, ei])
      rw [x2] at a1 a2
      exact ⟨a1, by omega⟩
    · obtain ⟨i, hi, ei⟩ := List.getElem_of_mem x1
      obtain ⟨a1, a2⟩ := h9 i x hi (by rw [List.getElem?_eq_getElem hi, ei])
      rw [x2] at a1 a2
      exact ⟨a1, by omega⟩
  refine ⟨h1, fun s hs => ⟨(h2 s hs).1, (h2 s hs).2.1, (h2 s hs).2.2.1⟩, fun s hs u hu => cv u _ (h10 s hs (fun z => z) u hu), fun s hs hl u hu => cv u _ (h11 s hs hl u hu), fun g hg => ?_, h13⟩
  obtain ⟨a1, a2⟩ := cv g 0 (h12 g hg)
  exact ⟨a1, by omega⟩
end RS
