/-! why a plan is refused, in both -/
section PX
variable {hp s0 s1 : Bool} {m : HM} {k : Mu} {len siz : Nat → Nat} {ded : Nat → Bool} {n ang : Nat} {row : Nat → List Nat}
theorem m_wp_loop {v1 v2 : Int32} {K : Int32 → Mu → Prop} (rA : aA len siz ded n ang (k 0)) (h : (vp_in (14 : Int32) 148 ∧ (((3 : Int32) < (k 0 14) → K (-9 : Int32) k) ∧ (¬ (3 : Int32) < (k 0 14) → ((nI (trk len 12) ≤ (5 : Int32) → wX5_layRows k (fun m10 : Mu => (((m10 32 6) = (((12 : Int32) * v1) + v2) → K (0 : Int32) m10) ∧ (¬ (m10 32 6) = (((12 : Int32) * v1) + v2) → wX5_layAll v1 v2 m10 (fun m12 : Mu => ∀ m13 : Mu, m13 = mu_up m12 32 6 (((12 : Int32) * v1) + v2) → K (0 : Int32) m13))))) ∧ (¬ nI (trk len 12) ≤ (5 : Int32) → K (-9 : Int32) k)))))) : ∀ d j, j + d = 12 → lpX5_wrongPlan_36 K (d + 1) v1 v2 (nI (trk len j)) (nI j) k := by
  intro d
  induction d with
  | zero =>
    intro j hj
    have e : j = 12 := by omega
    subst e
    unfold lpX5_wrongPlan_36
    rw [c14]
    exact ⟨fun _ => h, fun z => absurd (Int32.le_refl _) z⟩
  | succ d ih =>
    intro j hj
    unfold lpX5_wrongPlan_36
    refine ⟨fun z => absurd z (nI_ge (b := 12) (by omega) (by decide)), fun _ => t5_isTrack rA (by omega) (fun hl => ⟨fun z => absurd z (by decide), fun _ x18 e18 x19 e19 => ?_⟩) (fun hl => ⟨fun _ x16 e16 x17 e17 => ?_, fun z => absurd rfl z⟩)⟩
    · rw [e18, e19, nI_1, nI_1]
      have := ih (j + 1) (by omega)
      rw [show trk len (j + 1) = trk len j + 1 by show trk len j + (if 0 < len j then 1 else 0) = _; rw [if_pos hl]] at this
      exact this
    · rw [e16, e17, nI_1, Int32.add_zero]
      have := ih (j + 1) (by omega)
      rw [show trk len (j + 1) = trk len j by show trk len j + (if 0 < len j then 1 else 0) = _; rw [if_neg (by omega)]; rfl] at this
      exact this
theorem plan_split (hw : wf len siz n ang row) (h2 : stC len siz ded n ang row m.2.1) (h3 : stR len siz ded n ang row (k 0)) (a1 a2 : Int32) :
    (∃ e : Int32, ¬ e = 0 ∧ (∀ K : Int32 → Prop, K e → wX4_planError a1 a2 hp s0 s1 m K) ∧ (∀ K : Int32 → Mu → Prop, K e k → wX5_wrongPlan a1 a2 k K)) ∨
    (∃ l p : Nat, l < n ∧ p < 12 ∧ a1 = nI l ∧ a2 = nI p ∧ 0 < len p ∧ n ≤ 3 ∧ trk len 12 ≤ 5 ∧ (∀ K : Int32 → Prop, K 0 → wX4_planError a1 a2 hp s0 s1 m K) ∧ (∀ K : Int32 → Mu → Prop, wX5_layRows k (fun m10 : Mu => (((m10 32 6) = nI (12 * l + p) → K (0 : Int32) m10) ∧ (¬ (m10 32 6) = nI (12 * l + p) → wX5_layAll (nI l) (nI p) m10 (fun m12 : Mu => ∀ m13 : Mu, m13 = mu_up m12 32 6 (nI (12 * l + p)) → K (0 : Int32) m13)))) → wX5_wrongPlan a1 a2 k K)) := by
  have hn8 := hw.2.2.2.2.2.2.1
  have yn := h2.1.2.2.1
  have rn := h3.1.2.2.1
  rcases loc_or n hn8 a1 with ⟨l, hl, rfl⟩ | hx
  · rcases pos_or a2 with ⟨p, hp12, rfl⟩ | ⟨x1, x2⟩
    · have hpl : p < 13 := by omega
      obtain ⟨el, h60⟩ := h2.1.1 p hpl
      have e12 : ((12 : Int32) * nI l) + nI p = nI (12 * l + p) := by rw [show (12 : Int32) = nI 12 from rfl, pk_mul, nI_add]
      rcases Nat.eq_zero_or_pos (len p) with hl0 | hl0
      · refine Or.inl ⟨-2, by decide, fun K hK => ?_, fun K hK => ?_⟩
        · refine t_isLoc yn hn8 hl ⟨fun q => absurd q (by decide), fun _ => c_pos hp12 ⟨fun q => absurd q (by decide), fun _ => t_lengthAt hpl ?_⟩⟩
          rw [el, hl0]
          exact ⟨fun _ => hK, fun z => absurd rfl z⟩
        · exact m_loc rn hn8 hl ⟨fun q => absurd q (by decide), fun _ => m_pos hp12 ⟨fun q => absurd q (by decide), fun _ => t5_isTrack h3.1 hpl (fun z => absurd z (by omega)) (fun _ => ⟨fun _ => hK, fun z => absurd rfl z⟩)⟩⟩
      · have cls : ∀ K : Int32 → Prop, (3 < n → K (-9)) → (¬ 3 < n → 5 < trk len 12 → K (-9)) → (¬ 3 < n → ¬ 5 < trk len 12 → K 0) → wX4_planError (nI l) (nI p) hp s0 s1 m K := by
          intro K k1 k2 k3
          refine t_isLoc yn hn8 hl ⟨fun q => absurd q (by decide), fun _ => c_pos hp12 ⟨fun q => absurd q (by decide), fun _ => t_lengthAt hpl ?_⟩⟩
          rw [el, yn]
          have htk := trk_le len 12
          refine ⟨fun z => absurd z (nI_ne0 hl0 (by omega)), fun _ => ⟨fun z => ⟨fun _ => k1 ((nI_ltI (a := 3) (by decide) (by omega)).mp z), fun z => absurd rfl z⟩, fun z => t_trackCount h2.1 ⟨fun z5 => ⟨fun _ => k2 (fun q => z (nI_lt (a := 3) q (by omega))) ((nI_ltI (a := 5) (by decide) (by omega)).mp z5), fun z => absurd rfl z⟩, fun z5 => ⟨fun q => absurd q (by decide), fun _ => k3 (fun q => z (nI_lt (a := 3) q (by omega))) (fun q => z5 (nI_lt (a := 5) q (by omega)))⟩⟩⟩⟩
        have rfc : ∀ K : Int32 → Mu → Prop, ((vp_in (14 : Int32) 148 ∧ (((3 : Int32) < (k 0 14) → K (-9 : Int32) k) ∧ (¬ (3 : Int32) < (k 0 14) → ((nI (trk len 12) ≤ (5 : Int32) → wX5_layRows k (fun m10 : Mu => (((m10 32 6) = (((12 : Int32) * nI l) + nI p) → K (0 : Int32) m10) ∧ (¬ (m10 32 6) = (((12 : Int32) * nI l) + nI p) → wX5_layAll (nI l) (nI p) m10 (fun m12 : Mu => ∀ m13 : Mu, m13 = mu_up m12 32 6 (((12 : Int32) * nI l) + nI p) → K (0 : Int32) m13))))) ∧ (¬ nI (trk len 12) ≤ (5 : Int32) → K (-9 : Int32) k)))))) → wX5_wrongPlan (nI l) (nI p) k K := by
          intro K h
          exact m_loc rn hn8 hl ⟨fun q => absurd q (by decide), fun _ => m_pos hp12 ⟨fun q => absurd q (by decide), fun _ => t5_isTrack h3.1 hpl (fun _ => ⟨fun z => absurd z (by decide), fun _ => ⟨13, m_wp_loop h3.1 h 12 0 (by decide)⟩⟩) (fun z => absurd hl0 (by omega))⟩⟩
        have htk := trk_le len 12
        by_cases h3n : 3 < n
        · refine Or.inl ⟨-9, by decide, fun K hK => cls K (fun _ => hK) (fun z => absurd h3n z) (fun z => absurd h3n z), fun K hK => rfc K ⟨v148 (i := 14) (by decide), fun _ => hK, fun z => ?_⟩⟩
          rw [rn] at z
          exact absurd (nI_lt (a := 3) h3n (by omega)) z
        · have nz : ¬ (3 : Int32) < k 0 14 := by rw [rn]; exact fun z => h3n ((nI_ltI (a := 3) (by decide) (by omega)).mp z)
          by_cases h5 : 5 < trk len 12
          · exact Or.inl ⟨-9, by decide, fun K hK => cls K (fun z => absurd z h3n) (fun _ _ => hK) (fun _ z => absurd h5 z), fun K hK => rfc K ⟨v148 (i := 14) (by decide), fun z => absurd z nz, fun _ => ⟨fun z => absurd z (nI_ge (a := 5) h5 (by omega)), fun _ => hK⟩⟩⟩
          · refine Or.inr ⟨l, p, hl, hp12, rfl, rfl, hl0, by omega, by omega, fun K hK => cls K (fun z => absurd z h3n) (fun _ z => absurd z h5) (fun _ _ => hK), fun K hK => rfc K ⟨v148 (i := 14) (by decide), fun z => absurd z nz, fun _ => ⟨fun _ => ?_, fun z => absurd (nI_le (b := 5) (by omega) (by decide)) z⟩⟩⟩
            rw [e12]
            exact hK
    · exact Or.inl ⟨-1, by decide, fun K hK => t_isLoc yn hn8 hl ⟨fun q => absurd q (by decide), fun _ => c_posn x1 ⟨fun _ => hK, fun z => absurd rfl z⟩⟩, fun K hK => m_loc rn hn8 hl ⟨fun q => absurd q (by decide), fun _ => m_posn x2 ⟨fun _ => hK, fun z => absurd rfl z⟩⟩⟩
  · exact Or.inl ⟨-3, by decide, fun K hK => t_isLoc_no yn hx ⟨fun _ => hK, fun z => absurd rfl z⟩, fun K hK => m_locn rn hn8 hx ⟨fun _ => hK, fun z => absurd rfl z⟩⟩
end PX
