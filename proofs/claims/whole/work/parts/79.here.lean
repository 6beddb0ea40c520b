/-! the reference's own rows: taking and inserting -/
def hS (m m' : Mu) : Prop := ∀ a, a ≠ 16 → a ≠ 17 → m' a = m a
theorem hS.rf {m : Mu} : hS m m := fun _ _ _ => rfl
theorem hS.tr {m m' m'' : Mu} (h : hS m m') (h2 : hS m' m'') : hS m m'' := fun a h1 h3 => (h2 a h1 h3).trans (h a h1 h3)
theorem l4 (r k : Nat) : ((4 : Int32) * nI r) + nI k = nI (4 * r + k) := by rw [show (4 : Int32) = nI 4 from rfl, pk_mul, nI_add]
section HE
variable {m : Mu} {r : Nat} {R : Nat → List Nat}
theorem t5_th_loop {c i : Nat} {x : Int32} {K : Int32 → Mu → Prop} (hr : r < 6) (hc : m 17 r = nI c) (hc3 : c ≤ 3) (h : ∀ m', m' 16 = sh_d (m 16) (4 * r) i c → (∀ a, a ≠ 16 → m' a = m a) → K x m') : ∀ d j, j + d = c → i ≤ j → lpX5_takeHere_24 K (d + 1) (nI r) x (nI j) (mu_set m 16 (sh_d (m 16) (4 * r) i j)) := by
  intro d
  induction d with
  | zero =>
    intro j hj hij
    have e : j = c := by omega
    subst e
    unfold lpX5_takeHere_24
    rw [nI_clamp (by omega), pu_ne _ _ (by decide), hc]
    exact ⟨pk_in r 6 hr, fun _ => h _ (pu_same _ _ _) (fun a ha => pu_ne _ _ ha), fun q => absurd (Int32.le_refl _) q⟩
  | succ d ih =>
    intro j hj hij
    unfold lpX5_takeHere_24
    rw [nI_clamp (by omega), pu_ne _ _ (by decide), hc, l4, nI_1]
    refine ⟨pk_in r 6 hr, pk_le c j (fun z => absurd z (by omega)) (fun _ => ⟨pk_in (4 * r + j + 1) 24 (by omega), pk_in (4 * r + j) 24 (by omega), fun m4 e4 x5 e5 => ?_⟩)⟩
    rw [nI_clamp (by omega), nI_clamp (by omega)] at e4
    have em : m4 = mu_set m 16 (sh_d (m 16) (4 * r) i (j + 1)) := by
      rw [e4]
      funext a
      by_cases ha : a = 16
      · subst ha
        rw [pu_up, pu_same, pu_same, ← sh_dS _ _ _ _ hij]
      · rw [pu_upn _ _ _ ha, pu_ne _ _ ha, pu_ne _ _ ha]
    rw [e5, em, nI_1]
    exact ih (j + 1) (by omega) (by omega)
theorem t5_th {i l : Nat} {K : Int32 → Mu → Prop} (hR : rR R m) (hr : r < 6) (hl : (R r)[i]? = some l) (h : ∀ m', rR (va_up R r (eraAt (R r) i)) m' → hS m m' → K (nI l) m') : wX5_takeHere (nI r) (nI i) m K := by
  obtain ⟨h1, h3, h4⟩ := hR r hr
  have hi := (List.getElem?_eq_some_iff.mp hl).1
  unfold wX5_takeHere
  rw [l4, nI_clamp (by omega), nI_clamp (by omega), h4 i l hl, h1, nI_m1 (by omega)]
  refine ⟨pk_in (4 * r + i) 24 (by omega), fun x1 e1 => ⟨pk_in r 6 hr, pk_in r 6 hr, fun m2 e2 => ⟨(R r).length - 1 - i + 1, ?_⟩⟩⟩
  have e16 : m2 16 = m 16 := by rw [e2, pu_upn _ _ _ (by decide)]
  have := t5_th_loop (m := m2) (i := i) (x := x1) (K := K) hr (c := (R r).length - 1) (by rw [e2, pu_up, pu_u]) (by omega) (fun m' g1 g2 => by
    rw [e1]
    refine h m' (fun q hq => ?_) (fun a a16 a17 => by rw [g2 a a16, e2, pu_upn _ _ _ a17])
    rw [g2 17 (by decide), e2, pu_up, g1, e16]
    by_cases hqp : q = r
    · subst hqp
      rw [va_up_self, pu_u, era_len hi]
      refine ⟨rfl, by omega, fun j x hx => ?_⟩
      rw [era_get hi] at hx
      unfold sh_d
      by_cases hj : j < i
      · rw [if_pos hj] at hx
        rw [if_neg (by omega)]
        exact h4 j x hx
      · rw [if_neg hj] at hx
        have hj2 := (List.getElem?_eq_some_iff.mp hx).1
        rw [if_pos (by omega)]
        exact h4 (j + 1) x hx
    · rw [va_up_ne _ _ hqp, pu_un _ _ hqp]
      obtain ⟨k1, k3, k4⟩ := hR q hq
      refine ⟨k1, k3, fun j x hx => ?_⟩
      have hj := (List.getElem?_eq_some_iff.mp hx).1
      unfold sh_d
      rw [if_neg (by omega)]
      exact k4 j x hx) ((R r).length - 1 - i) i (by omega) (Nat.le_refl _)
  rw [sh_d0, mu_set_self] at this
  exact this
theorem t5_ih_loop {c i : Nat} {x : Int32} {K : Mu → Prop} (hr : r < 6) (hc : m 17 r = nI c) (hc8 : c < 4) (hi : i ≤ c) (h : ∀ m', m' 16 = upd (sh_u (m 16) (4 * r) i c) (4 * r + i) x → m' 17 = upd (m 17) r (nI (c + 1)) → hS m m' → K m') : ∀ d j, i + d = j → j ≤ c → lpX5_insertHere_8 K (d + 1) (nI r) (nI i) x (nI j) (mu_set m 16 (sh_u (m 16) (4 * r) j c)) := by
  intro d
  induction d with
  | zero =>
    intro j hj hjc
    have e : j = i := by omega
    subst e
    unfold lpX5_insertHere_8
    rw [l4]
    refine ⟨fun _ => ⟨pk_in (4 * r + j) 24 (by omega), fun m3 e3 => ⟨pk_in r 6 hr, pk_in r 6 hr, fun m4 e4 => ?_⟩⟩, fun q => absurd (Int32.le_refl _) q⟩
    rw [nI_clamp (by omega)] at e3 e4
    have h17 : m3 17 = m 17 := by rw [e3, pu_upn _ _ _ (by decide), pu_ne _ _ (by decide)]
    rw [h17, hc, nI_1] at e4
    refine h m4 ?_ ?_ (fun a a16 a17 => ?_)
    · rw [e4, pu_upn _ _ _ (by decide), e3, pu_up, pu_same]
    · rw [e4, pu_up, h17]
    · rw [e4, pu_upn _ _ _ a17, e3, pu_upn _ _ _ a16, pu_ne _ _ a16]
  | succ d ih =>
    intro j hj hjc
    obtain ⟨j, rfl⟩ : ∃ k, j = k + 1 := ⟨j - 1, by omega⟩
    unfold lpX5_insertHere_8
    rw [l4 r (j + 1), show nI (4 * r + (j + 1)) - (1 : Int32) = nI (4 * r + j) from nI_pred _]
    refine pk_le (j + 1) i (fun z => absurd z (by omega)) (fun _ => ⟨pk_in (4 * r + j) 24 (by omega), pk_in (4 * r + (j + 1)) 24 (by omega), fun m5 e5 x6 e6 => ?_⟩)
    rw [nI_clamp (by omega), nI_clamp (by omega)] at e5
    have em : m5 = mu_set m 16 (sh_u (m 16) (4 * r) j c) := by
      rw [e5]
      funext a
      by_cases ha : a = 16
      · subst ha
        rw [pu_up, pu_same, pu_same, ← sh_uS _ _ _ _ hjc]
      · rw [pu_upn _ _ _ ha, pu_ne _ _ ha, pu_ne _ _ ha]
    rw [e6, em, pk_m1]
    exact ih j (by omega) (by omega)
theorem t5_ih {i l : Nat} {K : Mu → Prop} (hR : rR R m) (hr : r < 6) (hi : i ≤ (R r).length) (hlen : (R r).length < 4) (h : ∀ m', rR (va_up R r (insAt (R r) i l)) m' → hS m m' → K m') : wX5_insertHere (nI r) (nI i) (nI l) m K := by
  obtain ⟨h1, h3, h4⟩ := hR r hr
  unfold wX5_insertHere
  rw [nI_clamp (by omega), h1]
  refine ⟨pk_in r 6 hr, fun x1 e1 => ⟨(R r).length - i + 1, ?_⟩⟩
  rw [e1]
  have := t5_ih_loop (m := m) (i := i) (x := nI l) (K := K) hr h1 hlen hi (fun m' g1 g2 g3 => h m' (fun q hq => ?_) g3) ((R r).length - i) (R r).length (by omega) (Nat.le_refl _)
  · rw [sh_u0, mu_set_self] at this
    exact this
  · rw [g1, g2]
    by_cases hqp : q = r
    · subst hqp
      rw [va_up_self, pu_u, ins_len _ _ hi]
      refine ⟨rfl, by omega, fun j x hx => ?_⟩
      rw [ins_get _ hi] at hx
      by_cases hj : j < i
      · rw [if_pos hj] at hx
        rw [pu_un _ _ (by omega)]
        unfold sh_u
        rw [if_neg (by omega)]
        exact h4 j x hx
      · rw [if_neg hj] at hx
        by_cases hj2 : j = i
        · rw [if_pos hj2] at hx
          cases hx
          rw [hj2, pu_u]
        · rw [if_neg hj2] at hx
          have hj3 := (List.getElem?_eq_some_iff.mp hx).1
          rw [pu_un _ _ (by omega)]
          unfold sh_u
          rw [if_pos (by omega), show 4 * q + j - 1 = 4 * q + (j - 1) by omega]
          exact h4 (j - 1) x hx
    · rw [va_up_ne _ _ hqp, pu_un _ _ hqp]
      obtain ⟨k1, k3, k4⟩ := hR q hq
      refine ⟨k1, k3, fun j x hx => ?_⟩
      have hj := (List.getElem?_eq_some_iff.mp hx).1
      rw [pu_un _ _ (by omega)]
      unfold sh_u
      rw [if_neg (by omega)]
      exact k4 j x hx
end HE
section HP
variable {m : Mu} {r p : Nat} {P : List Nat} {row : Nat → List Nat} {len siz : Nat → Nat} {ded : Nat → Bool} {n ang : Nat} {R : Nat → List Nat}
theorem rws_at (h : P[r]? = some p) : rws P row r = row p := by unfold rws; rw [h]
theorem rws_up {x : List Nat} (hP : P.Nodup) (h : P[r]? = some p) : rws P (va_up row p x) = va_up (rws P row) r x := by
  funext q
  by_cases e : q = r
  · subst e
    rw [va_up_self, rws_at h, va_up_self]
  · rw [va_up_ne _ _ e]
    unfold rws
    cases hq : P[q]? with
    | none => rfl
    | some p' =>
      have : p' ≠ p := fun z => by
        have h1 := List.getElem?_eq_some_iff.mp hq
        have h2 := List.getElem?_eq_some_iff.mp h
        obtain ⟨l1, e1⟩ := h1
        obtain ⟨l2, e2⟩ := h2
        have pw := List.pairwise_iff_getElem.mp hP
        rcases Nat.lt_or_gt_of_ne e with w | w
        · exact pw q r l1 l2 w (by rw [e1, e2, z])
        · exact pw r q l2 l1 w (by rw [e1, e2, z])
      exact va_up_ne _ _ this
theorem t5_tkP {i l : Nat} {K : Int32 → Mu → Prop} (hP : P.Nodup) (hR : rR (rws P row) m) (hr : r < 6) (hp : P[r]? = some p) (hl : (row p)[i]? = some l) (h : ∀ m', rR (rws P (va_up row p (eraAt (row p) i))) m' → hS m m' → K (nI l) m') : wX5_takeHere (nI r) (nI i) m K := by
  refine t5_th hR hr (by rw [rws_at hp]; exact hl) (fun m' h1 h2 => h m' ?_ h2)
  rw [rws_up hP hp]
  rw [rws_at hp] at h1
  exact h1
theorem t5_inP {i l : Nat} {K : Mu → Prop} (hP : P.Nodup) (hR : rR (rws P row) m) (hr : r < 6) (hp : P[r]? = some p) (hi : i ≤ (row p).length) (hlen : (row p).length < 4) (h : ∀ m', rR (rws P (va_up row p (insAt (row p) i l))) m' → hS m m' → K m') : wX5_insertHere (nI r) (nI i) (nI l) m K := by
  refine t5_ih hR hr (by rw [rws_at hp]; exact hi) (by rw [rws_at hp]; exact hlen) (fun m' h1 h2 => h m' ?_ h2)
  rw [rws_up hP hp]
  rw [rws_at hp] at h1
  exact h1
/-- the length of some locomotives of a row -/
theorem t5_sum_loop {K : Int32 → Prop} {f k : Nat} (hA : aA len siz ded n ang (m 0)) (hR : rR R m) (hr : r < 6) (hrow : ∀ l ∈ R r, l < n) (hk : f + k ≤ (R r).length) (h : K (nI (sm siz (((R r).drop f).take k)))) : ∀ d i, i + d = k → lpX5_sum_6 m K (d + 1) (nI r) (nI f) (nI k) (nI (sm siz (((R r).drop f).take i))) (nI (f + i)) := by
  obtain ⟨r1, r2, r3⟩ := hR r hr
  obtain ⟨-, -, -, hn8, hsz, -, -⟩ := hA
  intro d
  induction d with
  | zero =>
    intro i hi
    have e : i = k := by omega
    subst e
    unfold lpX5_sum_6
    rw [nI_add]
    exact pk_le (f + i) (f + i) (fun _ => h) (fun z => absurd z (by omega))
  | succ d ih =>
    intro i hi
    have hx := List.getElem?_eq_getElem (show f + i < (R r).length by omega)
    have hln := hrow _ (List.getElem_mem (show f + i < (R r).length by omega))
    unfold lpX5_sum_6
    rw [nI_add, l4, nI_clamp (by omega), r3 _ _ hx, l15, nI_clamp (by omega), (hsz _ hln).1, nI_add]
    refine pk_le (f + k) (f + i) (fun z => absurd z (by omega)) (fun _ => ⟨pk_in (4 * r + (f + i)) 24 (by omega), pk_in (15 + (R r)[f + i]) 148 (by omega), fun x2 e2 x3 e3 => ?_⟩)
    have hx2 : ((R r).drop f)[i]? = some (R r)[f + i] := by rw [List.getElem?_drop]; exact hx
    rw [e2, e3, nI_1]
    have := ih (i + 1) (by omega)
    rw [take_snoc hx2, sm_app] at this
    exact this
theorem t5_sum {K : Int32 → Prop} {f k : Nat} (hA : aA len siz ded n ang (m 0)) (hR : rR R m) (hr : r < 6) (hrow : ∀ l ∈ R r, l < n) (hk : f + k ≤ (R r).length) (h : K (nI (sm siz (((R r).drop f).take k)))) : wX5_sum (nI r) (nI f) (nI k) m K :=
  ⟨k + 1, t5_sum_loop hA hR hr hrow hk h k 0 (by omega)⟩
theorem plc_pre {i x : Nat} : ∀ j, (plc len j)[i]? = some x → ∀ d, (plc len (j + d))[i]? = some x := by
  intro j h d
  induction d with
  | zero => exact h
  | succ d ih =>
    rcases Nat.eq_zero_or_pos (len (j + d)) with z | z
    · rw [← Nat.add_assoc, plcS_no z]; exact ih
    · rw [← Nat.add_assoc, plcS_yes z, List.getElem?_append_left (List.getElem?_eq_some_iff.mp ih).1]; exact ih
theorem plc_at {q : Nat} (hq : q < 12) (hl : 0 < len q) : (plc len 12)[rowOf len q]? = some q := by
  unfold rowOf
  rw [if_pos hl]
  have h : (plc len (q + 1))[trk len q + 1]? = some q := by
    rw [plcS_yes hl, List.getElem?_append_right (by rw [plc_len]; exact Nat.le_refl _), plc_len]
    simp
  have := plc_pre (q + 1) h (11 - q)
  rw [show q + 1 + (11 - q) = 12 by omega] at this
  exact this
theorem plc_0 : (plc len 12)[0]? = some 12 := rfl
end HP
