/-! the planner's places -/
def plc (len : Nat → Nat) (j : Nat) : List Nat := 12 :: (List.range j).filter (fun p => decide (0 < len p))
section PL
variable {len : Nat → Nat}
theorem plcS_yes {j : Nat} (h : 0 < len j) : plc len (j + 1) = plc len j ++ [j] := by
  unfold plc
  rw [List.range_succ, List.filter_append]
  simp [h]
theorem plcS_no {j : Nat} (h : len j = 0) : plc len (j + 1) = plc len j := by
  unfold plc
  rw [List.range_succ, List.filter_append]
  simp [h]
theorem plc_len : ∀ j, (plc len j).length = trk len j + 1
  | 0 => rfl
  | j + 1 => by
    have ih := plc_len j
    rcases Nat.eq_zero_or_pos (len j) with z | z
    · rw [plcS_no z, ih]
      show _ = trk len j + (if 0 < len j then 1 else 0) + 1
      rw [if_neg (by omega)]
    · rw [plcS_yes z, List.length_append, ih]
      show _ = trk len j + (if 0 < len j then 1 else 0) + 1
      rw [if_pos z]
      rfl
theorem trk_mono (len : Nat → Nat) {i j : Nat} (h : i ≤ j) : trk len i ≤ trk len j := by
  induction h with
  | refl => exact Nat.le_refl _
  | step _ ih => exact Nat.le_trans ih (Nat.le_add_right _ _)
/-- the planner's list of places -/
def plM (P : List Nat) (m : Mu) : Prop := m 13 8 = nI P.length ∧ ∀ (i x : Nat), P[i]? = some x → m 1 i = nI x
def plE (m m' : Mu) : Prop := (∀ a, a ≠ 1 → a ≠ 13 → m' a = m a) ∧ ∀ i, i ≠ 8 → m' 13 i = m 13 i
theorem t1_places_loop {m : Mu} {K : Mu → Prop} (hl : ∀ p, p < 13 → m 20 p = nI (len p) ∧ len p ≤ 60) (h5 : trk len 12 ≤ 5) (hK : ∀ m', plM (plc len 12) m' → plE m m' → K m') : ∀ d j m1, j + d = 12 → plM (plc len j) m1 → plE m m1 → lpX1_listPlaces_15 K (d + 1) (nI j) m1 := by
  intro d
  induction d with
  | zero =>
    intro j m1 hj h1 h2
    have e : j = 12 := by omega
    subst e
    unfold lpX1_listPlaces_15
    exact ⟨fun _ => hK m1 h1 h2, fun z => absurd (Int32.le_refl _) z⟩
  | succ d ih =>
    intro j m1 hj h1 h2
    have hm := trk_mono len (show j ≤ 12 by omega)
    have hpl := plc_len (len := len) j
    unfold lpX1_listPlaces_15
    refine ⟨fun z => absurd z (nI_ge (b := 12) (by omega) (by decide)), fun _ => t_lengthAt (by omega) ?_⟩
    obtain ⟨e, h60⟩ := hl j (by omega)
    rw [show mu_sub m1 20 0 j = nI (len j) from (congrFun (h2.1 20 (by decide) (by decide)) j).trans e, h1.1]
    refine ⟨fun z x6 e6 => ?_, fun z => ⟨fun z6 => ?_, fun z6 => ⟨vp_in_nI (by have : ¬ 6 ≤ (plc len j).length := fun q => z6 (nI_le (a := 6) q (by omega)); omega) (by decide), fun m9 e9 m10 e10 x11 e11 => ?_⟩⟩⟩
    · have z0 : len j = 0 := by
        rcases Nat.eq_zero_or_pos (len j) with w | w
        · exact w
        · exact absurd z (nI_nle w (by omega))
      rw [e6, nI_1]
      exact ih (j + 1) m1 (by omega) (by rw [plcS_no z0]; exact h1) h2
    · have := (nI_leI (a := 6) (by decide) (by omega)).mp z6
      have z1 : 0 < len j := by
        rcases Nat.eq_zero_or_pos (len j) with w | w
        · rw [w] at z; exact absurd (Int32.le_refl _) z
        · exact w
      have h6 := trk_mono len (show j + 1 ≤ 12 by omega)
      have : trk len (j + 1) = trk len j + 1 := by
        show trk len j + (if 0 < len j then 1 else 0) = _
        rw [if_pos z1]
      omega
    · have z1 : 0 < len j := by
        rcases Nat.eq_zero_or_pos (len j) with w | w
        · rw [w] at z; exact absurd (Int32.le_refl _) z
        · exact w
      rw [nI_clamp (by omega)] at e9
      have g9 : m9 13 = m1 13 := by rw [e9, pu_upn _ _ _ (by decide)]
      rw [g9, h1.1, nI_1] at e10
      rw [e11, nI_1]
      refine ih (j + 1) m10 (by omega) ⟨?_, fun i x hx => ?_⟩ ⟨fun a a1 a13 => ?_, fun i hi => ?_⟩
      · rw [e10, pu_up, pu_u, plcS_yes z1]; simp
      · rw [e10, pu_upn _ _ _ (by decide), e9, pu_up]
        rw [plcS_yes z1] at hx
        by_cases hi : i < (plc len j).length
        · rw [List.getElem?_append_left hi] at hx
          rw [pu_un _ _ (by omega)]
          exact h1.2 i x hx
        · have := (List.getElem?_eq_some_iff.mp hx).1
          simp at this
          have ei : i = (plc len j).length := by omega
          subst ei
          simp at hx
          rw [pu_u, hx]
      · rw [e10, pu_upn _ _ _ a13, e9, pu_upn _ _ _ a1]; exact h2.1 a a1 a13
      · rw [e10, pu_up, pu_un _ _ hi, g9]; exact h2.2 i hi
end PL
section PL2
variable {len : Nat → Nat}
theorem t1_places {m : Mu} {K : Mu → Prop} (hl : ∀ p, p < 13 → m 20 p = nI (len p) ∧ len p ≤ 60) (h5 : trk len 12 ≤ 5) (hK : ∀ m', plM (plc len 12) m' → plE m m' → K m') : wX1_listPlaces m K := by
  refine ⟨vp_in_nI (n := 0) (by decide) (by decide), fun m1 e1 m2 e2 => ⟨13, ?_⟩⟩
  have e0 : (0 : Int32).toNatClampNeg = 0 := by decide
  rw [e0] at e1
  refine t1_places_loop hl h5 hK 12 0 m2 (by decide) ⟨?_, fun i x hx => ?_⟩ ⟨fun a a1 a13 => ?_, fun i hi => ?_⟩
  · rw [e2, pu_up, pu_u]; rfl
  · have hx' : [12][i]? = some x := hx
    have := (List.getElem?_eq_some_iff.mp hx').1
    simp at this
    subst this
    simp at hx'
    rw [e2, pu_upn _ _ _ (by decide), e1, pu_up, pu_u, ← hx']
    rfl
  · rw [e2, pu_upn _ _ _ a13, e1, pu_upn _ _ _ a1]
  · rw [e2, pu_up, pu_un _ _ hi, e1, pu_upn _ _ _ (by decide)]
end PL2
