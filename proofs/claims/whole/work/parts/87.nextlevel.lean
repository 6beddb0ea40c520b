/-! the next level's start -/
section NX
variable (G : Nat → Prop) (E : Nat → Nat → Nat → Prop)
def tqS (L : Nat) (A : List Nat) (ac : Nat → Nat) (D : List Nat) (j : Nat) (T : List (Nat × Nat)) : Prop := lvQ G E (L + 1) 4032 A.length T ∧ (∀ x ∈ T, x.1 ∉ A) ∧ ∀ x ∈ T, ∀ (i s : Nat), j ≤ i → D[i]? = some s → x.2 ≤ ac s + 1
variable {L : Nat} {A D : List Nat} {tu ac : Nat → Nat} {T : List (Nat × Nat)} {j s u : Nat}
theorem tq_push (he : lvE G E 4032 L A tu ac D) (h : tqS G E L A ac D j T) (hs : D[j]? = some s) (hu : E s u 10001) (hN : u < 4032) (hA : u ∉ A) (hT : u ∉ T.map Prod.fst) : tqS G E L A ac D j (T ++ [(u, ac s + 1)]) := by
  obtain ⟨h1, h2, h3⟩ := h
  obtain ⟨e1, e2, e3, e4, e5, d1, d2, d3, d4⟩ := he
  obtain ⟨sA, sL⟩ := d2 s (List.mem_of_getElem? hs)
  obtain ⟨⟨k, hk⟩, -, hac⟩ := e2 s sA
  refine ⟨h1.push G E hN (by omega) hT (fun x hx => h3 x hx j s (Nat.le_refl _) hs) ⟨k + 1, s, 10001, cst tu ac s, hk, hu, ?_⟩, fun x hx => ?_, fun x hx i s' hi hs' => ?_⟩
  · unfold cst; rw [sL]; omega
  · rcases List.mem_append.mp hx with z | z
    · exact h2 x z
    · simp at z; subst z; exact hA
  · rcases List.mem_append.mp hx with z | z
    · exact h3 x z i s' hi hs'
    · simp at z
      subst z
      have := d4 j i s s' hi hs hs'
      show ac s + 1 ≤ ac s' + 1
      omega
theorem lv_next (he : lvE G E 4032 L A tu ac D) (h : tqS G E L A ac D D.length T) (hc : ∀ (i s : Nat), D[i]? = some s → ∀ u, E s u 10001 → u ∈ A ∨ ∃ x ∈ T, x.1 = u ∧ x.2 ≤ ac s + 1) : lvS G E 4032 (L + 1) 0 A tu ac T [] 0 0 [] (fun _ => False) := by
  obtain ⟨h1, h2, h3⟩ := h
  obtain ⟨⟨e1, e1'⟩, e2, e3, e4, e5, d1, d2, d3, d4⟩ := he
  have hA := few 4032 A e1 e1'
  refine ⟨⟨e1, e1'⟩, fun s hs => ?_, ⟨h1, ⟨fun i j a b _ ha => by simp at ha, List.nodup_nil, fun x hx => by simp at hx⟩, fun x hx => by simp at hx⟩, ⟨Nat.zero_le _, Nat.zero_le _, fun i x _ _ => Nat.zero_le _, fun i x _ _ => Nat.zero_le _⟩, ⟨fun i x hi => absurd hi (by omega), fun i x hi => absurd hi (by omega)⟩, fun s hs _ u hu => Or.inl (e3 s hs u hu), fun s hs hl u hu => ?_, fun g hg => Or.inl ⟨(e5 g hg).1, by rw [(e5 g hg).2]; exact Nat.le_refl _⟩, ⟨fun s hs hl => ?_, fun s hs => by simp at hs, List.nodup_nil, fun i j a b _ ha => by simp at ha⟩⟩
  · obtain ⟨a1, a2, a3⟩ := e2 s hs
    refine ⟨a1, by omega, a3, ?_⟩
    unfold cst
    omega
  · have a2 := (e2 s hs).2.1
    by_cases hlt : tu s < L
    · exact Or.inl (e4 s hs hlt u hu)
    · have hsL : tu s = L := by omega
      obtain ⟨i, hi, ei⟩ := List.getElem_of_mem (d1 s hs hsL)
      rcases hc i s (by rw [List.getElem?_eq_getElem hi, ei]) u hu with z | ⟨x, x1, x2, x3⟩
      · obtain ⟨-, b2, b3⟩ := e2 u z
        refine Or.inl ⟨z, ?_⟩
        unfold cst
        omega
      · refine Or.inr (Or.inl ⟨x, x1, x2, ?_⟩)
        unfold cst
        omega
  · have := (e2 s hs).2.1
    omega
/-- all is done -/
def lvF (A : List Nat) (tu ac : Nat → Nat) : Prop := (∀ s ∈ A, (∃ j, rch G E j (cst tu ac s) s) ∧ tu s ≤ 4032 ∧ ac s ≤ 4031 ∧ s < 4032) ∧ (∀ s ∈ A, ∀ u w, (w = 1 ∨ w = 10001) → E s u w → u ∈ A ∧ cst tu ac u ≤ cst tu ac s + w) ∧ ∀ g, G g → g ∈ A ∧ cst tu ac g = 0
theorem lv_all (h : lvS G E 4032 L 0 A tu ac [] [] 0 0 [] (fun _ => False)) (hL : L ≤ A.length) : lvF G E A tu ac := by
  obtain ⟨⟨h1, h1'⟩, h2, h3, h6, h8, h10, h11, h12, d1, d2⟩ := h
  have hA := few 4032 A h1 h1'
  have cv : ∀ u y, cov L A tu ac [] [] u y → u ∈ A ∧ cst tu ac u ≤ y := fun u y hc => by
    rcases hc with z | ⟨x, x1, -⟩ | ⟨x, x1, -⟩
    · exact z
    · simp at x1
    · simp at x1
  refine ⟨fun s hs => ?_, fun s hs u w hw hu => ?_, fun g hg => ?_⟩
  · obtain ⟨a1, a2, a3, a4⟩ := h2 s hs
    exact ⟨a1, by omega, by omega, h1' s hs⟩
  · rcases hw with z | z
    · subst z; exact cv u _ (h10 s hs (fun q => q) u hu)
    · subst z
      have a2 := (h2 s hs).2.1
      have : tu s ≠ L := fun e => by have := d1 s hs e; simp at this
      exact cv u _ (h11 s hs (by omega) u hu)
  · obtain ⟨a1, a2⟩ := cv g 0 (h12 g hg)
    exact ⟨a1, by omega⟩
theorem lvF.all (h : lvF G E A tu ac) (hE : ∀ r s w, E r s w → w = 1 ∨ w = 10001) : ∀ k c s, rch G E k c s → s ∈ A ∧ cst tu ac s ≤ c
  | 0, c, s, hr => by
    have := h.2.2 s hr.1
    exact ⟨this.1, by omega⟩
  | k + 1, c, s, ⟨r, w, c', hr, he, e⟩ => by
    have ih := lvF.all h hE k c' r hr
    have := h.2.1 r ih.1 s w (hE r s w he) he
    exact ⟨this.1, by omega⟩
theorem lvF.isD (h : lvF G E A tu ac) (hE : ∀ r s w, E r s w → w = 1 ∨ w = 10001) (hs : s ∈ A) : isD G E (cst tu ac s) s := ⟨(h.1 s hs).1, fun k c hr => (h.all G E hE k c s hr).2⟩
end NX
section NM
variable {len siz : Nat → Nat} {ded : Nat → Bool} {n ang l p : Nat} {K : Mu → Prop} {L : Nat} {A D : List Nat} {tu ac : Nat → Nat} {T : List (Nat × Nat)} {m m0 : Mu}
/-- what putting into 'turned' leaves as it was -/
def aT (m m' : Mu) : Prop := (∀ a, a ≠ 22 → a ≠ 25 → a ≠ 27 → a ≠ 32 → m' a = m a) ∧ ∀ i, i ≠ 29 → m' 32 i = m 32 i
theorem aT.g {m m' : Mu} (h : aT m m') : gS m m' := ⟨fun a ha => h.1 a (by omega) (by omega) (by omega) (by omega), fun i hi => h.2 i (by omega)⟩
theorem t5_addT {v y : Nat} (hv : v < 4032) (hL : L < 2 ^ 31) (r1 : dnM A tu ac m) (r2 : rqM 22 25 29 T m) (r5 : stM 27 L T m) (hlen : v ∉ A → v ∉ T.map Prod.fst → T.length < 4032) (h0 : v ∈ A ∨ v ∈ T.map Prod.fst → K m) (h1 : v ∉ A → v ∉ T.map Prod.fst → ∀ m', rqM 22 25 29 (T ++ [(v, y)]) m' → stM 27 L (T ++ [(v, y)]) m' → aT m m' → K m') : wX5_addTurned (nI v) (nI y) (nI L) m K := by
  have hd := (r1.at hv).1
  have hst := r5.no hL hv
  unfold wX5_addTurned
  rw [nI_clamp (by omega)]
  refine ⟨pk_in v 4032 hv, fun z => ⟨pk_in v 4032 hv, fun z2 => h0 (Or.inr (hst.mp z2)), fun z2 => ?_⟩, fun z => h0 (Or.inl ?_)⟩
  · have hA := hd.mp z
    have hQ : v ∉ T.map Prod.fst := fun q => z2 (hst.mpr q)
    have hl := hlen hA hQ
    refine ⟨pk_in v 4032 hv, fun m3 e3 => ?_⟩
    have c3 : m3 32 29 = nI T.length := by rw [e3, pu_upn _ _ _ (by decide)]; exact r2.1
    rw [c3]
    refine ⟨pk_in T.length 4032 hl, fun m4 e4 => ?_⟩
    rw [nI_clamp (by omega)] at e4
    have c4 : m4 32 29 = nI T.length := by rw [e4, pu_upn _ _ _ (by decide)]; exact c3
    rw [c4]
    refine ⟨pk_in T.length 4032 hl, fun m5 e5 m6 e6 => ?_⟩
    rw [nI_clamp (by omega)] at e5
    have c5 : m5 32 29 = nI T.length := by rw [e5, pu_upn _ _ _ (by decide)]; exact c4
    rw [c5, nI_1] at e6
    have p1 : m6 22 = upd (m 22) T.length (nI v) := by rw [e6, pu_upn _ _ _ (by decide), e5, pu_up, e4, pu_upn _ _ _ (by decide), e3, pu_upn _ _ _ (by decide)]
    have p2 : m6 25 = upd (m 25) T.length (nI y) := by rw [e6, pu_upn _ _ _ (by decide), e5, pu_upn _ _ _ (by decide), e4, pu_up, e3, pu_upn _ _ _ (by decide)]
    have p3 : m6 27 = upd (m 27) v (nI L) := by rw [e6, pu_upn _ _ _ (by decide), e5, pu_upn _ _ _ (by decide), e4, pu_upn _ _ _ (by decide), e3, pu_up]
    have p4 : m6 32 29 = nI (T.length + 1) := by rw [e6, pu_up, pu_u]
    refine h1 hA hQ m6 (r2.push p1 p2 p4) (r5.push p3) ⟨fun a x1 x2 x3 x4 => ?_, fun i hi => ?_⟩
    · rw [e6, pu_upn _ _ _ x4, e5, pu_upn _ _ _ x1, e4, pu_upn _ _ _ x2, e3, pu_upn _ _ _ x3]
    · rw [e6, pu_up, pu_un _ _ hi, e5, pu_upn _ _ _ (by decide), e4, pu_upn _ _ _ (by decide), e3, pu_upn _ _ _ (by decide)]
  · cases Decidable.em (v ∈ A) with
    | inl q => exact q
    | inr q => exact absurd (hd.mpr q) z
/-- while the next level is begun -/
def nxM (len siz : Nat → Nat) (ded : Nat → Bool) (n ang l p : Nat) (L : Nat) (A : List Nat) (tu ac : Nat → Nat) (D : List Nat) (m0 : Mu) (j : Nat) (T : List (Nat × Nat)) (m : Mu) : Prop := tqS (gR len siz n l p) (eR len siz ded n) L A ac D j T ∧ (∀ (i s : Nat), i < j → D[i]? = some s → ∀ u, eR len siz ded n s u 10001 → u ∈ A ∨ ∃ x ∈ T, x.1 = u ∧ x.2 ≤ ac s + 1) ∧ dnM A tu ac m ∧ rqM 22 25 29 T m ∧ stM 27 (L + 1) T m ∧ stM 28 (L + 1) [] m ∧ ddM D m ∧ rfM len siz ded n ang m ∧ gS m0 m
theorem nxM.lo {j : Nat} {m m' : Mu} (h : nxM len siz ded n ang l p L A tu ac D m0 j T m) (e : loS m m') : nxM len siz ded n ang l p L A tu ac D m0 j T m' := by
  obtain ⟨h1, h2, h3, h4, h5, h6, h7, h8, h9⟩ := h
  have g : ∀ x, x ≠ 16 → x ≠ 17 → x ≠ 32 → m' x = m x := e.1
  refine ⟨h1, h2, fun s hs => ?_, ⟨?_, fun i x hx => ?_⟩, fun s hs => ?_, fun s hs => ?_, ⟨?_, fun i s hx => ?_⟩, h8.lo e, h9.tr e.g⟩
  · rw [g 21 (by decide) (by decide) (by decide), g 19 (by decide) (by decide) (by decide), g 20 (by decide) (by decide) (by decide)]; exact h3 s hs
  · rw [e.2 29 (by decide)]; exact h4.1
  · rw [g 22 (by decide) (by decide) (by decide), g 25 (by decide) (by decide) (by decide)]; exact h4.2 i x hx
  · rw [g 27 (by decide) (by decide) (by decide)]; exact h5 s hs
  · rw [g 28 (by decide) (by decide) (by decide)]; exact h6 s hs
  · rw [e.2 31 (by decide)]; exact h7.1
  · rw [g 24 (by decide) (by decide) (by decide)]; exact h7.2 i s hx
/-- one turned situation goes in -/
theorem t5_nx_add {j s u : Nat} (hL : L + 1 < 2 ^ 31) (he : lvE (gR len siz n l p) (eR len siz ded n) 4032 L A tu ac D) (h : nxM len siz ded n ang l p L A tu ac D m0 j T m) (hs : D[j]? = some s) (hu : eR len siz ded n s u 10001) (hN : u < 4032) (hK : ∀ T' m', nxM len siz ded n ang l p L A tu ac D m0 j T' m' → (∀ v y, (v ∈ A ∨ ∃ x ∈ T, x.1 = v ∧ x.2 ≤ y) → (v ∈ A ∨ ∃ x ∈ T', x.1 = v ∧ x.2 ≤ y)) → (u ∈ A ∨ ∃ x ∈ T', x.1 = u ∧ x.2 ≤ ac s + 1) → (∀ x, x = 20 ∨ x = 24 → m' x = m x) → K m') : wX5_addTurned (nI u) (nI (ac s + 1)) (nI (L + 1)) m K := by
  obtain ⟨h1, h2, h3, h4, h5, h6, h7, h8, h9⟩ := id h
  refine t5_addT hN hL h3 h4 h5 (fun hA hT => ?_) (fun hin => ?_) (fun hA hT m' q1 q2 q3 => ?_)
  · have := (tq_push _ _ he h1 hs hu hN hA hT).1.len
    simp at this
    omega
  · refine hK T m h (fun v y z => z) ?_ (fun _ _ => rfl)
    rcases hin with z | z
    · exact Or.inl z
    · obtain ⟨x, hx, ex⟩ := List.mem_map.mp z
      exact Or.inr ⟨x, hx, ex, h1.2.2 x hx j s (Nat.le_refl _) hs⟩
  · have mono : ∀ v y, (v ∈ A ∨ ∃ x ∈ T, x.1 = v ∧ x.2 ≤ y) → (v ∈ A ∨ ∃ x ∈ T ++ [(u, ac s + 1)], x.1 = v ∧ x.2 ≤ y) := fun v y z => z.imp id (fun ⟨x, x1, x2⟩ => ⟨x, List.mem_append_left _ x1, x2⟩)
    have g := q3.1
    refine hK _ m' ⟨tq_push _ _ he h1 hs hu hN hA hT, fun i s' hi hs' v hv => mono v _ (h2 i s' hi hs' v hv), fun x hx => ?_, q1, q2, fun x hx => ?_, ⟨?_, fun i x hx => ?_⟩, h8.g q3.g, h9.tr q3.g⟩ mono (Or.inr ⟨(u, ac s + 1), by simp, rfl, Nat.le_refl _⟩) (fun x hx => g x (by omega) (by omega) (by omega) (by omega))
    · rw [g 21 (by decide) (by decide) (by decide) (by decide), g 19 (by decide) (by decide) (by decide) (by decide), g 20 (by decide) (by decide) (by decide) (by decide)]; exact h3 x hx
    · rw [g 28 (by decide) (by decide) (by decide) (by decide)]; exact h6 x hx
    · rw [q3.2 31 (by decide)]; exact h7.1
    · rw [g 24 (by decide) (by decide) (by decide) (by decide)]; exact h7.2 i x hx
theorem t5_nx_loop {X0 : Int32 → Mu → Prop} (hs1 : ∀ l, l < n → 1 ≤ siz l) (hn : n ≤ 3) (h5 : trk len 12 ≤ 5) (hL : L + 1 < 2 ^ 31) (he : lvE (gR len siz n l p) (eR len siz ded n) 4032 L A tu ac D) (hX : ∀ T m, nxM len siz ded n ang l p L A tu ac D m0 D.length T m → X0 (nI (L + 1)) m) : ∀ d j T m, j + d = D.length → nxM len siz ded n ang l p L A tu ac D m0 j T m → lpX5_layAll_53 K X0 (d + 1) (nI (L + 1)) (nI j) m := by
  obtain ⟨⟨e1, e1'⟩, e2, e3, e4, e5, d1, d2, d3, d4⟩ := id he
  have hDl : D.length ≤ 4032 := few 4032 D d3 (fun x hx => e1' x (d2 x hx).1)
  intro d
  induction d with
  | zero =>
    intro j T m hj h
    have e : j = D.length := by omega
    subst e
    unfold lpX5_layAll_53
    exact pk_le D.length D.length (fun _ => hX T m h) (fun z => absurd z (by omega)) (hx := h.2.2.2.2.2.2.1.1)
  | succ d ih =>
    intro j T m hj h
    have hx := List.getElem?_eq_getElem (show j < D.length by omega)
    have hmem := List.getElem_mem (show j < D.length by omega)
    generalize hs : D[j]'(by omega) = s at hx hmem
    obtain ⟨sA, sL⟩ := d2 s hmem
    obtain ⟨⟨k, hk⟩, -, hac⟩ := e2 s sA
    obtain ⟨a, hV, ea⟩ := rfin_V hk
    have hs4 := e1' s sA
    have c0 : act len siz ded 0 a ((a.1 + 1) % 12, a.2) := Or.inl ⟨rfl, rfl⟩
    have c1 : act len siz ded 1 a ((a.1 + 11) % 12, a.2) := Or.inr (Or.inl ⟨rfl, rfl⟩)
    have ac' : ∀ (m : Mu), dnM A tu ac m → m 20 s = nI (ac s) := fun m hm => ((hm.at hs4).2 sA).2
    have edge : ∀ code b, code < 2 → act len siz ded code a b → eR len siz ded n s (fR len n b) 10001 ∧ fR len n b < 4032 := fun code b hc hact => by
      have hVb := act.V hV hact
      exact ⟨⟨a, b, hV, hVb, ⟨code, hact, by unfold wgt; rw [if_pos (by omega)]⟩, ea, rfl⟩, fR_lt hs1 hn h5 hVb⟩
    unfold lpX5_layAll_53
    refine pk_le D.length j (fun z => absurd z (by omega)) (fun _ => ⟨pk_in j 4032 (by omega), ?_⟩) (hx := h.2.2.2.2.2.2.1.1)
    rw [nI_clamp (by omega), h.2.2.2.2.2.2.1.2 j s hx, ← ea]
    refine t5_behind (code := 0) hs1 hn h5 hV h.2.2.2.2.2.2.2.1 (Or.inl (by decide)) (fun b m10 hact hS10 => ?_) (fun hno => absurd c0 (hno _))
    have h10 := h.lo hS10
    obtain ⟨ed, eN⟩ := edge 0 b (by decide) hact
    rw [h10.2.2.2.2.2.2.1.2 j s hx, nI_clamp (by omega), ac' m10 h10.2.2.1, nI_1]
    refine ⟨pk_in j 4032 (by omega), pk_in s 4032 hs4, ?_⟩
    refine t5_nx_add hL he h10 hx ed eN (fun T' m11 h11 mono1 cv1 sm11 => ?_)
    refine ⟨pk_in j 4032 (by omega), ?_⟩
    rw [h11.2.2.2.2.2.2.1.2 j s hx, ← ea]
    refine t5_behind (code := 1) hs1 hn h5 hV h11.2.2.2.2.2.2.2.1 (Or.inl (by decide)) (fun b' m13 hact' hS13 => ?_) (fun hno => absurd c1 (hno _))
    have h13 := h11.lo hS13
    obtain ⟨ed', eN'⟩ := edge 1 b' (by decide) hact'
    rw [h13.2.2.2.2.2.2.1.2 j s hx, nI_clamp (by omega), ac' m13 h13.2.2.1, nI_1]
    refine ⟨pk_in j 4032 (by omega), pk_in s 4032 hs4, ?_⟩
    refine t5_nx_add hL he h13 hx ed' eN' (fun T'' m14 h14 mono2 cv2 sm14 x15 e15 => ?_)
    rw [e15, nI_1]
    obtain ⟨g1, g2, g3⟩ := h14
    refine ih (j + 1) T'' m14 (by omega) ⟨⟨g1.1, g1.2.1, fun x hx i s' hi hs' => g1.2.2 x hx i s' (by omega) hs'⟩, fun i s' hi hs' u hu => ?_, g3⟩
    by_cases e : i = j
    · subst e
      rw [hx] at hs'
      cases hs'
      obtain ⟨a', b'', va, vb, ⟨code, hact'', ew⟩, ea', eb⟩ := hu
      have : a' = a := fR_inj hs1 hn h5 a' a va hV (ea'.trans ea.symm)
      subst this
      rw [← eb]
      have hcode : code = 0 ∨ code = 1 := by
        unfold wgt at ew
        split at ew
        · omega
        · exact absurd ew (by decide)
      rcases hcode with z | z
      · subst z
        rw [act_one hV hn hact hact'']
        exact mono2 _ _ cv1
      · subst z
        rw [act_one hV hn hact' hact'']
        exact cv2
    · exact g2 i s' (by omega) hs' u hu
end NM
