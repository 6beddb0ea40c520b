/-! the reference's search in its memory -/
abbrev gR (len siz : Nat → Nat) (n l p : Nat) : Nat → Prop := pG (sV len siz n) (sG l p) (fR len n)
abbrev eR (len siz : Nat → Nat) (ded : Nat → Bool) (n : Nat) : Nat → Nat → Nat → Prop := pE (sV len siz n) (sE len siz ded) (fR len n)
def rqM (i1 i2 ic : Nat) (Q : List (Nat × Nat)) (m : Mu) : Prop := m 32 ic = nI Q.length ∧ ∀ (i : Nat) (x : Nat × Nat), Q[i]? = some x → m i1 i = nI x.1 ∧ m i2 i = nI x.2
def dnM (A : List Nat) (tu ac : Nat → Nat) (m : Mu) : Prop := ∀ s, s < 4032 → (m 21 s = 0 ∧ s ∉ A) ∨ (m 21 s = 1 ∧ s ∈ A ∧ m 19 s = nI (tu s) ∧ m 20 s = nI (ac s))
def ddM (D : List Nat) (m : Mu) : Prop := m 32 31 = nI D.length ∧ ∀ (i s : Nat), D[i]? = some s → m 24 i = nI s
def stM (id L : Nat) (Q : List (Nat × Nat)) (m : Mu) : Prop := ∀ s, s < 4032 → (m id s = nI L ∧ s ∈ Q.map Prod.fst) ∨ (s ∉ Q.map Prod.fst ∧ (m id s = -1 ∨ ∃ j, j < L ∧ m id s = nI j))
def reM (L : Nat) (A : List Nat) (tu ac : Nat → Nat) (T M : List (Nat × Nat)) (D : List Nat) (m : Mu) : Prop := dnM A tu ac m ∧ rqM 22 25 29 T m ∧ rqM 23 26 30 M m ∧ ddM D m ∧ stM 27 L T m ∧ stM 28 L M m
def gS (m m' : Mu) : Prop := (∀ a, a ≤ 15 → m' a = m a) ∧ ∀ i, i ≤ 13 → m' 32 i = m 32 i
theorem gS.rf {m : Mu} : gS m m := ⟨fun _ _ => rfl, fun _ _ => rfl⟩
theorem gS.tr {m m' m'' : Mu} (h : gS m m') (h2 : gS m' m'') : gS m m'' := ⟨fun a ha => (h2.1 a ha).trans (h.1 a ha), fun i hi => (h2.2 i hi).trans (h.2 i hi)⟩
theorem loS.g {m m' : Mu} (h : loS m m') : gS m m' := ⟨fun a ha => h.1 a (by omega) (by omega) (by omega), fun i hi => h.2 i (by omega)⟩
section RM
variable {len siz : Nat → Nat} {ded : Nat → Bool} {n ang l p : Nat} {m : Mu} {K : Mu → Prop} {L : Nat} {A D : List Nat} {tu ac : Nat → Nat} {T M : List (Nat × Nat)}
theorem rfM.g {m m' : Mu} (h : rfM len siz ded n ang m) (e : gS m m') : rfM len siz ded n ang m' := h.keep (fun a ha => e.1 a (by omega)) (e.2 7 (by decide)) (e.2 10 (by decide)) (e.2 13 (by decide))
theorem reM.keep {m m' : Mu} (h : reM L A tu ac T M D m) (e : ∀ a, 19 ≤ a → a ≤ 28 → m' a = m a) (e29 : m' 32 29 = m 32 29) (e30 : m' 32 30 = m 32 30) (e31 : m' 32 31 = m 32 31) : reM L A tu ac T M D m' := by
  unfold reM dnM rqM ddM stM at *
  rw [e 19 (by decide) (by decide), e 20 (by decide) (by decide), e 21 (by decide) (by decide), e 22 (by decide) (by decide), e 23 (by decide) (by decide), e 24 (by decide) (by decide), e 25 (by decide) (by decide), e 26 (by decide) (by decide), e 27 (by decide) (by decide), e 28 (by decide) (by decide), e29, e30, e31]
  exact h
theorem reM.lo {m m' : Mu} (h : reM L A tu ac T M D m) (e : loS m m') : reM L A tu ac T M D m' := h.keep (fun a h1 h2 => e.1 a (by omega) (by omega) (by omega)) (e.2 29 (by decide)) (e.2 30 (by decide)) (e.2 31 (by decide))
theorem rqM.push {i1 i2 ic : Nat} {Q : List (Nat × Nat)} {m m' : Mu} {u y : Nat} (h : rqM i1 i2 ic Q m) (e1 : m' i1 = upd (m i1) Q.length (nI u)) (e2 : m' i2 = upd (m i2) Q.length (nI y)) (ec : m' 32 ic = nI (Q.length + 1)) : rqM i1 i2 ic (Q ++ [(u, y)]) m' := by
  refine ⟨by rw [ec]; simp, fun i x hx => ?_⟩
  rw [e1, e2]
  by_cases hl : i < Q.length
  · rw [List.getElem?_append_left hl] at hx
    rw [pu_un _ _ (by omega), pu_un _ _ (by omega)]
    exact h.2 i x hx
  · have h2 := (List.getElem?_eq_some_iff.mp hx).1
    simp at h2
    have e : i = Q.length := by omega
    subst e
    simp at hx
    rw [pu_u, pu_u, ← hx]
    exact ⟨rfl, rfl⟩
theorem stM.push {id : Nat} {Q : List (Nat × Nat)} {m m' : Mu} {u y : Nat} (h : stM id L Q m) (e : m' id = upd (m id) u (nI L)) : stM id L (Q ++ [(u, y)]) m' := by
  intro s hs
  rw [e]
  by_cases es : s = u
  · rw [es, pu_u]; exact Or.inl ⟨rfl, by simp⟩
  · rw [pu_un _ _ es]
    rcases h s hs with ⟨a1, a2⟩ | ⟨a1, a2⟩
    · exact Or.inl ⟨a1, by rw [List.map_append]; exact List.mem_append_left _ a2⟩
    · exact Or.inr ⟨by rw [List.map_append]; simp; exact ⟨by simpa using a1, es⟩, a2⟩
theorem stM.no {id : Nat} {Q : List (Nat × Nat)} {m : Mu} (h : stM id L Q m) (hL : L < 2 ^ 31) {s : Nat} (hs : s < 4032) : m id s = nI L ↔ s ∈ Q.map Prod.fst := by
  rcases h s hs with ⟨a1, a2⟩ | ⟨a1, a2⟩
  · exact ⟨fun _ => a2, fun _ => a1⟩
  · refine ⟨fun e => ?_, fun e => absurd e a1⟩
    rcases a2 with z | ⟨j, hj, z⟩
    · rw [z] at e
      have : ¬ nI L < 0 := nI_pos hL
      rw [← e] at this
      exact absurd (by decide) this
    · rw [z] at e
      have := (nI_eq (by omega) hL).mp e
      omega
theorem stM.next {id : Nat} {Q : List (Nat × Nat)} {m : Mu} (h : stM id L Q m) : stM id (L + 1) [] m := fun s hs => by
  refine Or.inr ⟨by simp, ?_⟩
  rcases h s hs with ⟨a1, a2⟩ | ⟨a1, z | ⟨j, hj, z⟩⟩
  · exact Or.inr ⟨L, by omega, a1⟩
  · exact Or.inl z
  · exact Or.inr ⟨j, by omega, z⟩
theorem dnM.at {m : Mu} (h : dnM A tu ac m) {s : Nat} (hs : s < 4032) : (m 21 s = 0 ↔ s ∉ A) ∧ (s ∈ A → m 19 s = nI (tu s) ∧ m 20 s = nI (ac s)) := by
  rcases h s hs with ⟨a1, a2⟩ | ⟨a1, a2, a3⟩
  · exact ⟨⟨fun _ => a2, fun _ => a1⟩, fun z => absurd z a2⟩
  · exact ⟨⟨fun z => by rw [a1] at z; exact absurd z (by decide), fun z => absurd a2 z⟩, fun _ => a3⟩
theorem t5_addTurned {v y : Nat} (hv : v < 4032) (hL : L < 2 ^ 31) (hR : reM L A tu ac T M D m) (hlen : v ∉ A → v ∉ T.map Prod.fst → T.length < 4032) (h0 : v ∈ A ∨ v ∈ T.map Prod.fst → K m) (h1 : v ∉ A → v ∉ T.map Prod.fst → ∀ m', reM L A tu ac (T ++ [(v, y)]) M D m' → gS m m' → K m') : wX5_addTurned (nI v) (nI y) (nI L) m K := by
  obtain ⟨r1, r2, r3, r4, r5, r6⟩ := hR
  have hd := (r1.at hv).1
  have hst := r5.no hL hv
  unfold wX5_addTurned
  rw [nI_clamp (by omega)]
  refine ⟨pk_in v 4032 hv, fun z => ⟨pk_in v 4032 hv, fun z2 => h0 (Or.inr (hst.mp z2)), fun z2 => ?_⟩, fun z => h0 (Or.inl ?_)⟩
  · have hA := hd.mp z
    have hQ : v ∉ T.map Prod.fst := fun q => z2 (hst.mpr q)
    have hl := hlen hA hQ
    refine ⟨pk_in v 4032 hv, fun m3 e3 => ?_⟩
    have c3 : m3 32 29 = nI T.length := by rw [e3, pu_upn _ _ _ (by decide)]; exact r2.1
    rw [c3]
    refine ⟨pk_in T.length 4032 hl, fun m4 e4 => ?_⟩
    rw [nI_clamp (by omega)] at e4
    have c4 : m4 32 29 = nI T.length := by rw [e4, pu_upn _ _ _ (by decide)]; exact c3
    rw [c4]
    refine ⟨pk_in T.length 4032 hl, fun m5 e5 m6 e6 => ?_⟩
    rw [nI_clamp (by omega)] at e5
    have c5 : m5 32 29 = nI T.length := by rw [e5, pu_upn _ _ _ (by decide)]; exact c4
    rw [c5, nI_1] at e6
    have g : ∀ a, a ≠ 22 → a ≠ 25 → a ≠ 27 → a ≠ 32 → m6 a = m a := fun a x1 x2 x3 x4 => by rw [e6, pu_upn _ _ _ x4, e5, pu_upn _ _ _ x1, e4, pu_upn _ _ _ x2, e3, pu_upn _ _ _ x3]
    have g32 : ∀ i, i ≠ 29 → m6 32 i = m 32 i := fun i hi => by rw [e6, pu_up, pu_un _ _ hi, e5, pu_upn _ _ _ (by decide), e4, pu_upn _ _ _ (by decide), e3, pu_upn _ _ _ (by decide)]
    have p1 : m6 22 = upd (m 22) T.length (nI v) := by rw [e6, pu_upn _ _ _ (by decide), e5, pu_up, e4, pu_upn _ _ _ (by decide), e3, pu_upn _ _ _ (by decide)]
    have p2 : m6 25 = upd (m 25) T.length (nI y) := by rw [e6, pu_upn _ _ _ (by decide), e5, pu_upn _ _ _ (by decide), e4, pu_up, e3, pu_upn _ _ _ (by decide)]
    have p3 : m6 27 = upd (m 27) v (nI L) := by rw [e6, pu_upn _ _ _ (by decide), e5, pu_upn _ _ _ (by decide), e4, pu_upn _ _ _ (by decide), e3, pu_up]
    have p4 : m6 32 29 = nI (T.length + 1) := by rw [e6, pu_up, pu_u]
    refine h1 hA hQ m6 ⟨?_, r2.push p1 p2 p4, ⟨by rw [g32 30 (by decide)]; exact r3.1, fun i x hx => by rw [g 23 (by decide) (by decide) (by decide) (by decide), g 26 (by decide) (by decide) (by decide) (by decide)]; exact r3.2 i x hx⟩, ⟨by rw [g32 31 (by decide)]; exact r4.1, fun i s hx => by rw [g 24 (by decide) (by decide) (by decide) (by decide)]; exact r4.2 i s hx⟩, r5.push p3, fun s hs => by rw [g 28 (by decide) (by decide) (by decide) (by decide)]; exact r6 s hs⟩ ⟨fun a ha => g a (by omega) (by omega) (by omega) (by omega), fun i hi => g32 i (by omega)⟩
    intro s hs
    rw [g 21 (by decide) (by decide) (by decide) (by decide), g 19 (by decide) (by decide) (by decide) (by decide), g 20 (by decide) (by decide) (by decide) (by decide)]
    exact r1 s hs
  · cases Decidable.em (v ∈ A) with
    | inl q => exact q
    | inr q => exact absurd (hd.mpr q) z
theorem t5_addMoved {v y : Nat} (hv : v < 4032) (hL : L < 2 ^ 31) (hR : reM L A tu ac T M D m) (hlen : v ∉ A → v ∉ M.map Prod.fst → M.length < 4032) (h0 : v ∈ A ∨ v ∈ M.map Prod.fst → K m) (h1 : v ∉ A → v ∉ M.map Prod.fst → ∀ m', reM L A tu ac T (M ++ [(v, y)]) D m' → gS m m' → K m') : wX5_addMoved (nI v) (nI y) (nI L) m K := by
  obtain ⟨r1, r2, r3, r4, r5, r6⟩ := hR
  have hd := (r1.at hv).1
  have hst := r6.no hL hv
  unfold wX5_addMoved
  refine pk_lt v 0 (fun z => absurd z (by omega)) (fun _ => ?_)
  rw [nI_clamp (by omega)]
  refine ⟨pk_in v 4032 hv, fun z => ⟨pk_in v 4032 hv, fun z2 => h0 (Or.inr (hst.mp z2)), fun z2 => ?_⟩, fun z => h0 (Or.inl ?_)⟩
  · have hA := hd.mp z
    have hQ : v ∉ M.map Prod.fst := fun q => z2 (hst.mpr q)
    have hl := hlen hA hQ
    refine ⟨pk_in v 4032 hv, fun m3 e3 => ?_⟩
    have c3 : m3 32 30 = nI M.length := by rw [e3, pu_upn _ _ _ (by decide)]; exact r3.1
    rw [c3]
    refine ⟨pk_in M.length 4032 hl, fun m4 e4 => ?_⟩
    rw [nI_clamp (by omega)] at e4
    have c4 : m4 32 30 = nI M.length := by rw [e4, pu_upn _ _ _ (by decide)]; exact c3
    rw [c4]
    refine ⟨pk_in M.length 4032 hl, fun m5 e5 m6 e6 => ?_⟩
    rw [nI_clamp (by omega)] at e5
    have c5 : m5 32 30 = nI M.length := by rw [e5, pu_upn _ _ _ (by decide)]; exact c4
    rw [c5, nI_1] at e6
    have g : ∀ a, a ≠ 23 → a ≠ 26 → a ≠ 28 → a ≠ 32 → m6 a = m a := fun a x1 x2 x3 x4 => by rw [e6, pu_upn _ _ _ x4, e5, pu_upn _ _ _ x1, e4, pu_upn _ _ _ x2, e3, pu_upn _ _ _ x3]
    have g32 : ∀ i, i ≠ 30 → m6 32 i = m 32 i := fun i hi => by rw [e6, pu_up, pu_un _ _ hi, e5, pu_upn _ _ _ (by decide), e4, pu_upn _ _ _ (by decide), e3, pu_upn _ _ _ (by decide)]
    have p1 : m6 23 = upd (m 23) M.length (nI v) := by rw [e6, pu_upn _ _ _ (by decide), e5, pu_up, e4, pu_upn _ _ _ (by decide), e3, pu_upn _ _ _ (by decide)]
    have p2 : m6 26 = upd (m 26) M.length (nI y) := by rw [e6, pu_upn _ _ _ (by decide), e5, pu_upn _ _ _ (by decide), e4, pu_up, e3, pu_upn _ _ _ (by decide)]
    have p3 : m6 28 = upd (m 28) v (nI L) := by rw [e6, pu_upn _ _ _ (by decide), e5, pu_upn _ _ _ (by decide), e4, pu_upn _ _ _ (by decide), e3, pu_up]
    have p4 : m6 32 30 = nI (M.length + 1) := by rw [e6, pu_up, pu_u]
    refine h1 hA hQ m6 ⟨?_, ⟨by rw [g32 29 (by decide)]; exact r2.1, fun i x hx => by rw [g 22 (by decide) (by decide) (by decide) (by decide), g 25 (by decide) (by decide) (by decide) (by decide)]; exact r2.2 i x hx⟩, r3.push p1 p2 p4, ⟨by rw [g32 31 (by decide)]; exact r4.1, fun i s hx => by rw [g 24 (by decide) (by decide) (by decide) (by decide)]; exact r4.2 i s hx⟩, fun s hs => by rw [g 27 (by decide) (by decide) (by decide) (by decide)]; exact r5 s hs, r6.push p3⟩ ⟨fun a ha => g a (by omega) (by omega) (by omega) (by omega), fun i hi => g32 i (by omega)⟩
    intro s hs
    rw [g 21 (by decide) (by decide) (by decide) (by decide), g 19 (by decide) (by decide) (by decide) (by decide), g 20 (by decide) (by decide) (by decide) (by decide)]
    exact r1 s hs
  · cases Decidable.em (v ∈ A) with
    | inl q => exact q
    | inr q => exact absurd (hd.mpr q) z
end RM
