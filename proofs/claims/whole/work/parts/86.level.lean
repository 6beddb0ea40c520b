/-! one level -/
section FL2
variable {len siz : Nat → Nat} {ded : Nat → Bool} {n ang l p : Nat} {m0 : Mu} {K : Mu → Prop} {L : Nat} {T : List (Nat × Nat)} {A0 : List Nat}
theorem rfin_V {k c s : Nat} (h : rch (gR len siz n l p) (eR len siz ded n) k c s) : ∃ a, sV len siz n a ∧ fR len n a = s := by
  cases k with
  | zero => obtain ⟨⟨a, v, -, e⟩, -⟩ := h; exact ⟨a, v, e⟩
  | succ k => obtain ⟨r, w, c', -, ⟨a, b, -, vb, -, -, e⟩, -⟩ := h; exact ⟨b, vb, e⟩
theorem t5_fl_136 {X0 : Int32 → Int32 → Int32 → Mu → Prop} {κ s k t mm t' m' : Nat} {A D : List Nat} {tu ac : Nat → Nat} {M : List (Nat × Nat)} {m : Mu} {u0 u1 : Int32} (hs1 : ∀ l, l < n → 1 ≤ siz l) (hn : n ≤ 3) (h5 : trk len 12 ≤ 5) (hL : L < 2 ^ 31) (hu : u1 + u0 = nI m') (h : lvS (gR len siz n l p) (eR len siz ded n) 4032 L κ A tu ac T M t mm D (fun _ => False)) (hR : reM L A tu ac T M D m) (hM : rfM len siz ded n ang m) (hsk : (s, k) ∈ T ∨ (s, k) ∈ M) (hκ : κ ≤ k) (ht : t' ≤ T.length) (hm : m' ≤ M.length) (uT : ∀ (i : Nat) (x : Nat × Nat), t' ≤ i → T[i]? = some x → k ≤ x.2) (uM : ∀ (i : Nat) (x : Nat × Nat), m' ≤ i → M[i]? = some x → k ≤ x.2) (pT : ∀ (i : Nat) (x : Nat × Nat), i < t' → T[i]? = some x → i < t ∨ x = (s, k)) (pM : ∀ (i : Nat) (x : Nat × Nat), i < m' → M[i]? = some x → i < mm ∨ x = (s, k)) (hX : ∀ κ' A' tu' ac' M' D' m2, lvS (gR len siz n l p) (eR len siz ded n) 4032 L κ' A' tu' ac' T M' t' m' D' (fun _ => False) → reM L A' tu' ac' T M' D' m2 → rfM len siz ded n ang m2 → gS m m2 → (∃ X, A' = A ++ X) → X0 (nI L) (nI t') (nI m') m2) : jnX5_finishLevel_136 K X0 (nI L) (nI t') (nI s) (nI k) u0 u1 m := by
  have hq : s < 4032 ∧ k ≤ A.length ∧ ∃ j, rch (gR len siz n l p) (eR len siz ded n) j (10000 * L + k) s := by
    rcases hsk with z | z
    · exact h.2.2.1.1.2.2 _ z
    · exact h.2.2.1.2.1.2.2 _ z
  obtain ⟨q1, q2, j, q3⟩ := hq
  obtain ⟨a, hV, ea⟩ := rfin_V q3
  have hd := (hR.1.at q1).1
  intro x10 e10
  rw [e10, hu, nI_clamp (by omega)]
  refine ⟨pk_in s 4032 q1, fun z => ?_, fun z => ?_⟩
  · have hno := hd.mp z
    obtain ⟨g1, g2⟩ := lv_fin _ _ h hno q1 q2 ⟨j, q3⟩ hκ ht hm uT uM pT pM
    subst ea
    exact t5_finishOne hs1 hn h5 hV hL hno q2 g1 g2 hR hM (fun M' m2 i1 i2 i3 i4 => hX k _ _ _ M' _ m2 i1 i2 i3 i4 ⟨_, rfl⟩)
  · have hin : s ∈ A := by
      cases Decidable.em (s ∈ A) with
      | inl q => exact q
      | inr q => exact absurd (hd.mpr q) z
    exact hX k A tu ac M D m (lv_done _ _ h hin hκ ht hm uT uM pT pM) hR hM gS.rf ⟨[], by simp⟩
theorem t5_fl_loop (hs1 : ∀ l, l < n → 1 ≤ siz l) (hn : n ≤ 3) (h5 : trk len 12 ≤ 5) (hL : L < 2 ^ 31) (hK : ∀ A tu ac M D m, lvE (gR len siz n l p) (eR len siz ded n) 4032 L A tu ac D → (∀ x ∈ T, x.1 ∈ A) → reM L A tu ac T M D m → rfM len siz ded n ang m → gS m0 m → (∃ X, A = A0 ++ X) → K m) : ∀ d κ A tu ac M t mm D m, 8064 < t + mm + d → lvS (gR len siz n l p) (eR len siz ded n) 4032 L κ A tu ac T M t mm D (fun _ => False) → reM L A tu ac T M D m → rfM len siz ded n ang m → gS m0 m → (∃ X, A = A0 ++ X) → lpX5_finishLevel_14 K d (nI L) (nI t) (nI mm) m := by
  intro d
  induction d with
  | zero =>
    intro κ A tu ac M t mm D m hd h
    have h1 := h.2.2.1.1.len
    have h2 := h.2.2.1.2.1.len
    have h3 := h.2.2.2.1.1
    have h4 := h.2.2.2.1.2.1
    omega
  | succ d ih =>
    intro κ A tu ac M t mm D m hd h hR hM hg hX
    have lT := h.2.2.1.1.len
    have lM := h.2.2.1.2.1.len
    obtain ⟨h6a, h6b, h6c, h6d⟩ := h.2.2.2.1
    have sT := h.2.2.1.1.1
    have sM := h.2.2.1.2.1.1
    have kT : ∀ x ∈ T, x.2 < 2 ^ 31 := fun x hx => by
      have := (h.2.2.1.1.2.2 x hx).2.1
      have := few 4032 A h.1.1 h.1.2
      omega
    have kM : ∀ x ∈ M, x.2 < 2 ^ 31 := fun x hx => by
      have := (h.2.2.1.2.1.2.2 x hx).2.1
      have := few 4032 A h.1.1 h.1.2
      omega
    have byT : ∀ (s k : Nat), T[t]? = some (s, k) → (∀ x, M[mm]? = some x → k ≤ x.2) → jnX5_finishLevel_61 K (fun a0 a1 a2 mm => lpX5_finishLevel_14 K d a0 a1 a2 mm) (nI L) (nI t) (nI mm) m := fun s k hx hle => by
      have htl := (List.getElem?_eq_some_iff.mp hx).1
      obtain ⟨g1, g2⟩ := hR.2.1.2 t _ hx
      refine ⟨fun z => absurd z (by decide), fun _ => ⟨pk_in t 4032 (by omega), fun z => absurd z (by decide), fun _ => ⟨pk_in t 4032 (by omega), fun z => absurd z (by decide), fun _ x8 e8 => ⟨fun z => absurd z (by decide), fun _ => ?_⟩⟩⟩⟩
      rw [nI_clamp (by omega), g1, g2, e8, nI_1]
      refine t5_fl_136 (t' := t + 1) (m' := mm) (s := s) (k := k) hs1 hn h5 hL (by rw [Int32.add_zero]) h hR hM (Or.inl (List.mem_of_getElem? hx)) (h6c t _ (Nat.le_refl _) hx) (by omega) h6b (fun i x hi hxi => ?_) (fun i x hi hxi => ?_) (fun i x hi hxi => ?_) (fun i x hi hxi => Or.inl hi) (fun κ' A' tu' ac' M' D' m2 i1 i2 i3 i4 i5 => ?_)
      · exact sT t i _ _ (by omega) hx hxi
      · have hml : mm < M.length := Nat.lt_of_le_of_lt hi (List.getElem?_eq_some_iff.mp hxi).1
        have h0 := List.getElem?_eq_getElem hml
        have := sM mm i _ _ hi h0 hxi
        have := hle _ h0
        omega
      · by_cases e : i = t
        · subst e
          rw [hx] at hxi
          exact Or.inr (Option.some.inj hxi).symm
        · exact Or.inl (by omega)
      · obtain ⟨X, eX⟩ := hX
        obtain ⟨Y, eY⟩ := i5
        exact ih κ' A' tu' ac' M' (t + 1) mm D' m2 (by omega) i1 i2 i3 (hg.tr i4) ⟨X ++ Y, by rw [eY, eX]; simp⟩
    have byM : ∀ (s k : Nat), M[mm]? = some (s, k) → (∀ x, T[t]? = some x → k ≤ x.2) → jnX5_finishLevel_65 K (fun a0 a1 a2 mm => lpX5_finishLevel_14 K d a0 a1 a2 mm) (nI L) (nI t) (nI mm) m := fun s k hx hle => by
      have hml := (List.getElem?_eq_some_iff.mp hx).1
      obtain ⟨g1, g2⟩ := hR.2.2.1.2 mm _ hx
      refine ⟨fun _ => ⟨pk_in mm 4032 (by omega), fun _ => ⟨pk_in mm 4032 (by omega), fun _ x8 e8 => ⟨fun _ => ?_, fun z => absurd rfl z⟩, fun z => absurd rfl z⟩, fun z => absurd rfl z⟩, fun z => absurd rfl z⟩
      rw [nI_clamp (by omega), g1, g2, e8, Int32.add_zero]
      refine t5_fl_136 (t' := t) (m' := mm + 1) (s := s) (k := k) hs1 hn h5 hL (by rw [nI_1]) h hR hM (Or.inr (List.mem_of_getElem? hx)) (h6d mm _ (Nat.le_refl _) hx) h6a (by omega) (fun i x hi hxi => ?_) (fun i x hi hxi => ?_) (fun i x hi hxi => Or.inl hi) (fun i x hi hxi => ?_) (fun κ' A' tu' ac' M' D' m2 i1 i2 i3 i4 i5 => ?_)
      · have htl : t < T.length := Nat.lt_of_le_of_lt hi (List.getElem?_eq_some_iff.mp hxi).1
        have h0 := List.getElem?_eq_getElem htl
        have := sT t i _ _ hi h0 hxi
        have := hle _ h0
        omega
      · exact sM mm i _ _ (by omega) hx hxi
      · by_cases e : i = mm
        · subst e
          rw [hx] at hxi
          exact Or.inr (Option.some.inj hxi).symm
        · exact Or.inl (by omega)
      · obtain ⟨X, eX⟩ := hX
        obtain ⟨Y, eY⟩ := i5
        exact ih κ' A' tu' ac' M' t (mm + 1) D' m2 (by omega) i1 i2 i3 (hg.tr i4) ⟨X ++ Y, by rw [eY, eX]; simp⟩
    have step : ¬ (t = T.length ∧ mm = M.length) → jnX5_finishLevel_30 K (fun a0 a1 a2 mm => lpX5_finishLevel_14 K d a0 a1 a2 mm) (nI L) (nI t) (nI mm) m := fun hne => by
      unfold jnX5_finishLevel_30
      rw [hR.2.1.1, hR.2.2.1.1]
      refine pk_eq mm M.length (fun e => ?_) (fun e => pk_le T.length t (fun e2 => ?_) (fun e2 => ⟨pk_in t 4032 (by omega), pk_in mm 4032 (by omega), ?_⟩))
      · have h0 := List.getElem?_eq_getElem (show t < T.length by omega)
        refine byT T[t].1 T[t].2 h0 (fun x hx => ?_)
        have := (List.getElem?_eq_some_iff.mp hx).1
        omega
      · have h0 := List.getElem?_eq_getElem (show mm < M.length by omega)
        refine byM M[mm].1 M[mm].2 h0 (fun x hx => ?_)
        have := (List.getElem?_eq_some_iff.mp hx).1
        omega
      · have h0 := List.getElem?_eq_getElem (show t < T.length by omega)
        have h1 := List.getElem?_eq_getElem (show mm < M.length by omega)
        rw [nI_clamp (by omega), nI_clamp (by omega), (hR.2.1.2 t _ h0).2, (hR.2.2.1.2 mm _ h1).2]
        have b1 := kT _ (List.mem_of_getElem? h0)
        have b2 := kM _ (List.mem_of_getElem? h1)
        refine pk_lt M[mm].2 T[t].2 (fun z => byM M[mm].1 M[mm].2 h1 (fun x hx => ?_)) (fun z => byT T[t].1 T[t].2 h0 (fun x hx => ?_))
        · rw [h0] at hx
          cases hx
          omega
        · rw [h1] at hx
          cases hx
          exact z
    unfold lpX5_finishLevel_14
    rw [hR.2.1.1]
    refine pk_lt t T.length (fun z => step (by omega)) (fun z => ?_)
    rw [hR.2.2.1.1]
    refine pk_le M.length mm (fun z2 => ?_) (fun z2 => step (by omega))
    have e1 : t = T.length := by omega
    have e2 : mm = M.length := by omega
    subst e1 e2
    refine hK A tu ac M D m (lv_end _ _ h) (fun x hx => ?_) hR hM hg hX
    obtain ⟨i, hi, ei⟩ := List.getElem_of_mem hx
    exact (h.2.2.2.2.1.1 i x hi (by rw [List.getElem?_eq_getElem hi, ei])).1
/-- the memory at the start of a level -/
def lvM (L : Nat) (A : List Nat) (tu ac : Nat → Nat) (T : List (Nat × Nat)) (m : Mu) : Prop := dnM A tu ac m ∧ rqM 22 25 29 T m ∧ stM 27 L T m ∧ stM 28 L [] m
theorem t5_finishLevel {A : List Nat} {tu ac : Nat → Nat} {m : Mu} (hs1 : ∀ l, l < n → 1 ≤ siz l) (hn : n ≤ 3) (h5 : trk len 12 ≤ 5) (hL : L < 2 ^ 31) (h : lvS (gR len siz n l p) (eR len siz ded n) 4032 L 0 A tu ac T [] 0 0 [] (fun _ => False)) (hR : lvM L A tu ac T m) (hM : rfM len siz ded n ang m) (hK : ∀ A' tu' ac' M D m', lvE (gR len siz n l p) (eR len siz ded n) 4032 L A' tu' ac' D → (∀ x ∈ T, x.1 ∈ A') → reM L A' tu' ac' T M D m' → rfM len siz ded n ang m' → gS m m' → (∃ X, A' = A ++ X) → K m') : wX5_finishLevel (nI L) m K := by
  obtain ⟨r1, r2, r5, r6⟩ := hR
  intro m1 e1 m2 e2
  have g : ∀ x, x ≠ 32 → m2 x = m x := fun x hx => by rw [e2, pu_upn _ _ _ hx, e1, pu_upn _ _ _ hx]
  have g32 : ∀ i, i ≠ 30 → i ≠ 31 → m2 32 i = m 32 i := fun i h1 h2 => by rw [e2, pu_up, pu_un _ _ h2, e1, pu_up, pu_un _ _ h1]
  have g30 : m2 32 30 = 0 := by rw [e2, pu_up, pu_un _ _ (by decide), e1, pu_up, pu_u]
  have g31 : m2 32 31 = 0 := by rw [e2, pu_up, pu_u]
  have hg : gS m m2 := ⟨fun x hx => g x (by omega), fun i hi => g32 i (by omega) (by omega)⟩
  refine ⟨8065, t5_fl_loop (m0 := m) (A0 := A) hs1 hn h5 hL hK 8065 0 A tu ac [] 0 0 [] m2 (by decide) h ⟨?_, ⟨?_, ?_⟩, ⟨g30, fun i x hx => by simp at hx⟩, ⟨g31, fun i x hx => by simp at hx⟩, ?_, ?_⟩ (hM.g hg) hg ⟨[], by simp⟩⟩
  · intro s hs
    rw [g 21 (by decide), g 19 (by decide), g 20 (by decide)]; exact r1 s hs
  · rw [g32 29 (by decide) (by decide)]; exact r2.1
  · intro i x hx
    rw [g 22 (by decide), g 25 (by decide)]; exact r2.2 i x hx
  · intro s hs
    rw [g 27 (by decide)]; exact r5 s hs
  · intro s hs
    rw [g 28 (by decide)]; exact r6 s hs
end FL2
