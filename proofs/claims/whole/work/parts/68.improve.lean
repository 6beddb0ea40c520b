/-! the search in the planner's memory -/
abbrev gC (len siz : Nat → Nat) (n l p : Nat) : Nat → Prop := pG (sV len siz n) (sG l p) (fC len n)
abbrev eC (len siz : Nat → Nat) (ded : Nat → Bool) (n : Nat) : Nat → Nat → Nat → Prop := pE (sV len siz n) (sE len siz ded) (fC len n)
def quM (b : Nat) (T : List (Nat × Nat)) (h : Nat) (m : Mu) : Prop := m (b + 3) 1 = nI h ∧ m (b + 3) 2 = nI T.length ∧ ∀ (i : Nat) (x : Nat × Nat), T[i]? = some x → m b i = nI x.1
def coM (c : Nat → Nat) (k : Nat) (m : Mu) : Prop := (∀ s, s < 4032 → m 5 s = nI (c s)) ∧ (∀ s, c s ≤ 1000000000) ∧ (∀ s, c s < 1000000000 → c s ≤ 10001 * k)
def seM (S : Nat) (c : Nat → Nat) (T M : List (Nat × Nat)) (hT hM : Nat) (m : Mu) : Prop := coM c (T.length + M.length) m ∧ quM 30 T hT m ∧ quM 40 M hM m ∧ m 13 9 = nI S
def imS (m m' : Mu) : Prop := ∀ a, a ≠ 5 → a ≠ 30 → a ≠ 33 → a ≠ 40 → a ≠ 43 → m' a = m a
theorem imS.rf {m : Mu} : imS m m := fun _ _ _ _ _ _ => rfl
theorem imS.tr {m m' m'' : Mu} (h : imS m m') (h2 : imS m' m'') : imS m m'' := fun a h1 h3 h4 h5 h6 => (h2 a h1 h3 h4 h5 h6).trans (h a h1 h3 h4 h5 h6)
theorem quM.keep {b : Nat} {T : List (Nat × Nat)} {h : Nat} {m m' : Mu} (q : quM b T h m) (e1 : m' b = m b) (e2 : m' (b + 3) = m (b + 3)) : quM b T h m' := by
  unfold quM
  rw [e1, e2]; exact q
section CM
variable {S : Nat} {c : Nat → Nat} {T M : List (Nat × Nat)} {hT hM t q : Nat} {m : Mu} {K : Mu → Prop}
theorem coM.up {k : Nat} {m' : Mu} (h : coM c k m) (e : m' 5 = upd (m 5) t (nI q)) (hq : q < 1000000000) (hk : q ≤ 10001 * (k + 1)) : coM (va_up c t q) (k + 1) m' := by
  refine ⟨fun s hs => ?_, fun s => ?_, fun s hs => ?_⟩
  · rw [e]
    by_cases es : s = t
    · rw [es, pu_u, va_up_self]
    · rw [pu_un _ _ es, va_up_ne _ _ es]; exact h.1 s hs
  · by_cases es : s = t
    · rw [es, va_up_self]; omega
    · rw [va_up_ne _ _ es]; exact h.2.1 s
  · by_cases es : s = t
    · rw [es, va_up_self]; exact hk
    · rw [va_up_ne _ _ es] at hs ⊢
      have := h.2.2 s hs
      omega
theorem t2_add {b : Nat} {T : List (Nat × Nat)} {h t q : Nat} (hQ : quM b T h m) (hl : T.length < 4032) (hK : ∀ m', quM b (T ++ [(t, q)]) h m' → (∀ a, a ≠ b → a ≠ b + 3 → m' a = m a) → K m') : wX2_add (nI t) (mu_sub m b) (fun k6 : Mu => ∀ m7 : Mu, m7 = mu_put m b 4 k6 → K m7) := by
  obtain ⟨q1, q2, q3⟩ := hQ
  unfold wX2_add
  rw [show mu_sub m b 3 2 = nI T.length from q2]
  refine pk_lt T.length 0 (fun z => absurd z (by omega)) (fun _ => pk_le 4032 T.length (fun z => absurd z (by omega)) (fun _ => ⟨pk_in T.length 4032 hl, fun m3 e3 m4 e4 m7 e7 => ?_⟩))
  rw [nI_clamp (by omega)] at e3
  have g3 : m3 3 = mu_sub m b 3 := by rw [e3, pu_upn _ _ _ (by decide)]
  rw [g3, show mu_sub m b 3 2 = nI T.length from q2, nI_1] at e4
  have p0 : m7 b = m4 0 := by rw [e7]; exact put_in (a := 0) (by decide)
  have p3 : m7 (b + 3) = m4 3 := by rw [e7]; exact put_in (a := 3) (by decide)
  have f0 : m4 0 = upd (m b) T.length (nI t) := by rw [e4, pu_upn _ _ _ (by decide), e3, pu_up]; rfl
  have f3 : m4 3 = upd (m (b + 3)) 2 (nI (T.length + 1)) := by rw [e4, pu_up, g3]; rfl
  refine hK m7 ⟨?_, ?_, fun i x hx => ?_⟩ (fun a h1 h2 => ?_)
  · rw [p3, f3, pu_un _ _ (by decide)]; exact q1
  · rw [p3, f3, pu_u]; simp
  · rw [p0, f0]
    by_cases hi : i < T.length
    · rw [List.getElem?_append_left hi] at hx
      rw [pu_un _ _ (by omega)]
      exact q3 i x hx
    · have := (List.getElem?_eq_some_iff.mp hx).1
      simp at this
      have ei : i = T.length := by omega
      subst ei
      simp at hx
      rw [pu_u, ← hx]
  · rw [e7]
    by_cases ha : b ≤ a ∧ a < b + 4
    · obtain ⟨x, rfl⟩ : ∃ x, a = b + x := ⟨a - b, by omega⟩
      rw [put_in (by omega), e4, pu_upn _ _ _ (by omega), e3, pu_upn _ _ _ (by omega)]
      rfl
    · exact put_out (by omega)
theorem t2_first {b : Nat} {T : List (Nat × Nat)} {h : Nat} {K : Int32 → Prop} (hQ : quM b T h m) (hh : h ≤ T.length) (hl : T.length ≤ 4032) (h1 : ∀ x, T[h]? = some x → K (nI x.1)) (h0 : T[h]? = none → K (-11)) : wX2_first (mu_sub m b) K := by
  obtain ⟨q1, q2, q3⟩ := hQ
  unfold wX2_first
  rw [show mu_sub m b 3 1 = nI h from q1, show mu_sub m b 3 2 = nI T.length from q2]
  refine pk_lt h 0 (fun z => absurd z (by omega)) (fun _ => pk_le T.length h (fun z => h0 (List.getElem?_eq_none z)) (fun z => pk_le 4032 h (fun z => absurd z (by omega)) (fun _ => ⟨pk_in h 4032 (by omega), ?_⟩)))
  rw [nI_clamp (by omega)]
  have hx := List.getElem?_eq_getElem z
  rw [show mu_sub m b 0 h = nI T[h].1 from q3 h _ hx]
  exact h1 _ hx
theorem t2_remove {b : Nat} {T : List (Nat × Nat)} {h : Nat} {x : Nat × Nat} {K : Int32 → Mu → Prop} (hQ : quM b T h m) (hl : T.length ≤ 4032) (hx : T[h]? = some x) (hb : x.1 < 2 ^ 31) (hK : ∀ m', quM b T (h + 1) m' → (∀ a, a ≠ b + 3 → m' a = m a) → K (nI x.1) m') : wX2_removeFirst (mu_sub m b) (fun (r12 : Int32) (k10 : Mu) => ∀ m11 : Mu, m11 = mu_put m b 4 k10 → K r12 m11) := by
  have hh := (List.getElem?_eq_some_iff.mp hx).1
  refine t2_first hQ (by omega) hl (fun y hy => ?_) (fun hy => by rw [hx] at hy; exact absurd hy (by simp))
  rw [hx] at hy
  cases hy
  obtain ⟨q1, q2, q3⟩ := hQ
  refine ⟨fun z => absurd z (ne_m11 hb), fun _ m3 e3 m11 e11 => ?_⟩
  rw [show mu_sub m b 3 1 = nI h from q1, nI_1] at e3
  have p0 : m11 b = m3 0 := by rw [e11]; exact put_in (a := 0) (by decide)
  have p3 : m11 (b + 3) = m3 3 := by rw [e11]; exact put_in (a := 3) (by decide)
  have f0 : m3 0 = m b := by rw [e3, pu_upn _ _ _ (by decide)]; rfl
  have f3 : m3 3 = upd (m (b + 3)) 1 (nI (h + 1)) := by rw [e3, pu_up]; rfl
  refine hK m11 ⟨?_, ?_, fun i y hy => ?_⟩ (fun a h1 => ?_)
  · rw [p3, f3, pu_u]
  · rw [p3, f3, pu_un _ _ (by decide)]; exact q2
  · rw [p0, f0]; exact q3 i y hy
  · rw [e11]
    by_cases ha : b ≤ a ∧ a < b + 4
    · obtain ⟨x, rfl⟩ : ∃ x, a = b + x := ⟨a - b, by omega⟩
      rw [put_in (by omega), e3, pu_upn _ _ _ (by omega)]
      rfl
    · exact put_out (by omega)
theorem t1_cost {K : Int32 → Prop} (hc : coM c 0 m ∨ ∃ k, coM c k m) {s : Nat} (hs : s < 4032) (h : K (nI (c s))) : wX1_costOf (nI s) m K := by
  have hm : m 5 s = nI (c s) := by
    rcases hc with z | ⟨k, z⟩
    · exact z.1 s hs
    · exact z.1 s hs
  refine pk_lt s 0 (fun z => absurd z (by omega)) (fun _ => pk_le 4032 s (fun z => absurd z (by omega)) (fun _ => ⟨pk_in s 4032 hs, ?_⟩))
  rw [nI_clamp (by omega), hm]
  exact h
theorem t1_cost0 {K : Int32 → Prop} (h : K 1000000000) : wX1_costOf (-11) m K := ⟨fun _ => h, fun z => absurd (by decide) z⟩
theorem t1_imp_t (hS : seM S c T M hT hM m) (ht : t < S) (hS4 : S ≤ 4032) (hq : q < 1000000000) (hk : q ≤ 10001 * (T.length + M.length + 1)) (hl : q < c t → T.length < 4032) (h0 : c t ≤ q → K m) (h1 : q < c t → ∀ m', seM S (va_up c t q) (T ++ [(t, q)]) M hT hM m' → imS m m' → K m') : wX1_improve_t (nI t) (nI q) m K := by
  obtain ⟨s1, s2, s3, s4⟩ := hS
  unfold wX1_improve_t
  rw [s4]
  have hc := s1.1 t (by omega)
  have hc9 := s1.2.1 t
  refine pk_lt t 0 (fun z => absurd z (by omega)) (fun _ => pk_le S t (fun z => absurd z (by omega)) (fun _ => pk_le 4032 t (fun z => absurd z (by omega)) (fun _ => ⟨pk_in t 4032 (by omega), ?_⟩)))
  rw [nI_clamp (by omega), hc]
  refine pk_le (c t) q (fun z => h0 z) (fun z => ⟨pk_in t 4032 (by omega), fun m5 e5 => ?_⟩)
  have g : ∀ a, a ≠ 5 → m5 a = m a := fun a ha => by rw [e5, pu_upn _ _ _ ha]
  have hQ : quM 30 T hT m5 := s2.keep (g 30 (by decide)) (g (30 + 3) (by decide))
  refine t2_add (q := q) hQ (hl z) (fun m7 hQ7 hS7 => h1 z m7 ⟨?_, ?_, ?_, ?_⟩ (fun a a5 a30 a33 a40 a43 => ?_))
  · have e57 : m7 5 = upd (m 5) t (nI q) := by rw [hS7 5 (by decide) (by decide), e5, pu_up]
    have := s1.up (t := t) e57 hq hk
    rw [show (T ++ [(t, q)]).length + M.length = T.length + M.length + 1 by simp; try omega]
    exact this
  · exact hQ7
  · exact s3.keep (by rw [hS7 40 (by decide) (by decide), g 40 (by decide)]) (by rw [hS7 43 (by decide) (by decide), g 43 (by decide)])
  · rw [hS7 13 (by decide) (by decide), g 13 (by decide)]; exact s4
  · rw [hS7 a a30 a33, g a a5]
theorem t1_imp_m (hS : seM S c T M hT hM m) (ht : t < S) (hS4 : S ≤ 4032) (hq : q < 1000000000) (hk : q ≤ 10001 * (T.length + M.length + 1)) (hl : q < c t → M.length < 4032) (h0 : c t ≤ q → K m) (h1 : q < c t → ∀ m', seM S (va_up c t q) T (M ++ [(t, q)]) hT hM m' → imS m m' → K m') : wX1_improve_m (nI t) (nI q) m K := by
  obtain ⟨s1, s2, s3, s4⟩ := hS
  unfold wX1_improve_m
  rw [s4]
  have hc := s1.1 t (by omega)
  have hc9 := s1.2.1 t
  refine pk_lt t 0 (fun z => absurd z (by omega)) (fun _ => pk_le S t (fun z => absurd z (by omega)) (fun _ => pk_le 4032 t (fun z => absurd z (by omega)) (fun _ => ⟨pk_in t 4032 (by omega), ?_⟩)))
  rw [nI_clamp (by omega), hc]
  refine pk_le (c t) q (fun z => h0 z) (fun z => ⟨pk_in t 4032 (by omega), fun m5 e5 => ?_⟩)
  have g : ∀ a, a ≠ 5 → m5 a = m a := fun a ha => by rw [e5, pu_upn _ _ _ ha]
  have hQ : quM 40 M hM m5 := s3.keep (g 40 (by decide)) (g (40 + 3) (by decide))
  refine t2_add (q := q) hQ (hl z) (fun m7 hQ7 hS7 => h1 z m7 ⟨?_, ?_, ?_, ?_⟩ (fun a a5 a30 a33 a40 a43 => ?_))
  · have e57 : m7 5 = upd (m 5) t (nI q) := by rw [hS7 5 (by decide) (by decide), e5, pu_up]
    have := s1.up (t := t) e57 hq hk
    rw [show T.length + (M ++ [(t, q)]).length = T.length + M.length + 1 by simp; try omega]
    exact this
  · exact s2.keep (by rw [hS7 30 (by decide) (by decide), g 30 (by decide)]) (by rw [hS7 33 (by decide) (by decide), g 33 (by decide)])
  · exact hQ7
  · rw [hS7 13 (by decide) (by decide), g 13 (by decide)]; exact s4
  · rw [hS7 a a40 a43, g a a5]
end CM
