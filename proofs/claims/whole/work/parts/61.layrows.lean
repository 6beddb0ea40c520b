/-! the reference's places -/
def rowOf (len : Nat → Nat) (p : Nat) : Nat := if 0 < len p then trk len p + 1 else 0
def lrM (len : Nat → Nat) (j : Nat) (m : Mu) : Prop := m 32 13 = nI (trk len j) ∧ (∀ (i x : Nat), (plc len j)[i]? = some x → m 14 i = nI x) ∧ m 15 12 = 0 ∧ ∀ p, p < j → m 15 p = nI (rowOf len p)
def lrE (m m' : Mu) : Prop := (∀ a, a ≠ 14 → a ≠ 15 → a ≠ 32 → m' a = m a) ∧ ∀ i, i ≠ 13 → m' 32 i = m 32 i
section LR
variable {len siz : Nat → Nat} {ded : Nat → Bool} {n ang : Nat}
theorem t5_layRows_loop {m : Mu} {K : Mu → Prop} (rA : aA len siz ded n ang (m 0)) (h5 : trk len 12 ≤ 5) (hK : ∀ m', lrM len 12 m' → lrE m m' → K m') : ∀ d j m1, j + d = 12 → lrM len j m1 → lrE m m1 → lpX5_layRows_23 K (d + 1) (nI j) m1 := by
  intro d
  induction d with
  | zero =>
    intro j m1 hj h1 h2
    have e : j = 12 := by omega
    subst e
    unfold lpX5_layRows_23
    exact ⟨fun _ => hK m1 h1 h2, fun z => absurd (Int32.le_refl _) z⟩
  | succ d ih =>
    intro j m1 hj h1 h2
    obtain ⟨g1, g2, g3, g4⟩ := h1
    have hm := trk_mono len (show j + 1 ≤ 12 by omega)
    have hpl := plc_len (len := len) j
    unfold lpX5_layRows_23
    refine ⟨fun z => absurd z (nI_ge (b := 12) (by omega) (by decide)), fun _ => ⟨vp_in_nI (by omega) (by decide), fun m5 e5 => ?_⟩⟩
    rw [nI_clamp (by omega)] at e5
    have e50 : m5 0 = m 0 := by rw [e5, pu_upn _ _ _ (by decide)]; exact h2.1 0 (by decide) (by decide) (by decide)
    have e532 : m5 32 = m1 32 := by rw [e5, pu_upn _ _ _ (by decide)]
    refine t5_isTrack (by rw [e50]; exact rA) (by omega) (fun hl => ⟨fun z => absurd z (by decide), fun _ m9 e9 => ?_⟩) (fun hl => ⟨fun _ x8 e8 => ?_, fun z => absurd rfl z⟩)
    · have et : trk len (j + 1) = trk len j + 1 := by
        show trk len j + (if 0 < len j then 1 else 0) = _
        rw [if_pos hl]
      rw [e532, g1, nI_1] at e9
      have e932 : m9 32 13 = nI (trk len j + 1) := by rw [e9, pu_up, pu_u]
      refine ⟨vp_in_nI (by omega) (by decide), fun m10 e10 => ?_⟩
      rw [nI_clamp (by omega), e932] at e10
      have e1032 : m10 32 = m9 32 := by rw [e10, pu_upn _ _ _ (by decide)]
      rw [e1032, e932, nI_clamp (by omega)]
      refine ⟨vp_in_nI (by omega) (by decide), fun m11 e11 x12 e12 => ?_⟩
      rw [e12, nI_1]
      refine ih (j + 1) m11 (by omega) ⟨?_, fun i x hx => ?_, ?_, fun p hp => ?_⟩ ⟨fun a a14 a15 a32 => ?_, fun i hi => ?_⟩
      · rw [e11, pu_upn _ _ _ (by decide), e1032, e932, et]
      · rw [e11, pu_up]
        rw [plcS_yes hl] at hx
        by_cases hi : i < (plc len j).length
        · rw [List.getElem?_append_left hi] at hx
          rw [pu_un _ _ (by omega), e10, pu_upn _ _ _ (by decide), e9, pu_upn _ _ _ (by decide), e5, pu_upn _ _ _ (by decide)]
          exact g2 i x hx
        · have := (List.getElem?_eq_some_iff.mp hx).1
          simp at this
          have ei : i = trk len j + 1 := by omega
          subst ei
          rw [← hpl] at hx
          simp at hx
          rw [pu_u, hx]
      · rw [e11, pu_upn _ _ _ (by decide), e10, pu_up, pu_un _ _ (by omega), e9, pu_upn _ _ _ (by decide), e5, pu_up, pu_un _ _ (by omega)]; exact g3
      · rw [e11, pu_upn _ _ _ (by decide), e10, pu_up]
        by_cases e : p = j
        · subst e
          rw [pu_u]
          unfold rowOf
          rw [if_pos hl]
        · rw [pu_un _ _ e, e9, pu_upn _ _ _ (by decide), e5, pu_up, pu_un _ _ e]
          exact g4 p (by omega)
      · rw [e11, pu_upn _ _ _ a14, e10, pu_upn _ _ _ a15, e9, pu_upn _ _ _ a32, e5, pu_upn _ _ _ a15]
        exact h2.1 a a14 a15 a32
      · rw [e11, pu_upn _ _ _ (by decide), e1032, e9, pu_up, pu_un _ _ hi, e532]
        exact h2.2 i hi
    · have et : trk len (j + 1) = trk len j := by
        show trk len j + (if 0 < len j then 1 else 0) = _
        rw [if_neg (by omega)]
        rfl
      rw [e8, nI_1]
      refine ih (j + 1) m5 (by omega) ⟨?_, fun i x hx => ?_, ?_, fun p hp => ?_⟩ ⟨fun a a14 a15 a32 => ?_, fun i hi => ?_⟩
      · rw [e532, et]; exact g1
      · rw [plcS_no hl] at hx
        rw [e5, pu_upn _ _ _ (by decide)]
        exact g2 i x hx
      · rw [e5, pu_up, pu_un _ _ (by omega)]; exact g3
      · rw [e5, pu_up]
        by_cases e : p = j
        · subst e
          rw [pu_u]
          unfold rowOf
          rw [if_neg (by omega)]
          rfl
        · rw [pu_un _ _ e]; exact g4 p (by omega)
      · rw [e5, pu_upn _ _ _ a15]; exact h2.1 a a14 a15 a32
      · rw [e532]; exact h2.2 i hi
end LR
