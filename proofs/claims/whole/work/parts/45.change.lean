/-! changes of the house -/
/-- the planners forget -/
def pF (P : Bool → (Nat → Nat) → (Nat → Nat) → (Nat → Bool) → Nat → Mu → Mu → Prop) : Prop := ∀ hp len siz ded n q k len' siz' ded' n' q' k', P hp len siz ded n q k → (hp = true → q' = mu_up q 13 11 (-11)) → (hp = false → q' = q) → (∀ a, 6 ≤ a → a ≠ 32 → k' a = k a) → (∀ i, 7 ≤ i → k' 32 i = k 32 i) → k' 32 6 = -11 → P hp len' siz' ded' n' q' k'
theorem t4_changes {hp s0 s1 : Bool} {m : HM} {K : HM → Prop} (hK : ∀ g q, g 2 1 = 0 → (hp = true → q = mu_up m.2.2.2.1 13 11 (-11)) → (hp = false → q = m.2.2.2.1) → K (m.1, m.2.1, g, q, m.2.2.2.2)) : wX4_houseChanges hp s0 s1 m K := by
  intro k1 e1 m2 e2
  have h0 : k1 2 1 = 0 := by rw [e1, pu_up, pu_u]
  rw [e2]
  refine ⟨fun h k3 e3 m4 e4 => ?_, fun h => hK k1 m.2.2.2.1 h0 (fun z => absurd (z.symm.trans h) (by decide)) (fun _ => rfl)⟩
  rw [e4]
  exact hK k1 k3 h0 (fun _ => e3) (fun z => absurd (h.symm.trans z) (by decide))
theorem t5_change {k : Mu} {K : Mu → Prop} (hK : ∀ k', k' 32 4 = 0 → k' 32 6 = -11 → (∀ a, a ≠ 32 → k' a = k a) → (∀ i, i ≠ 4 → i ≠ 6 → k' 32 i = k 32 i) → K k') : wX5_change k K := by
  intro m1 e1 m2 e2
  refine hK m2 ?_ ?_ (fun a ha => ?_) (fun i h4 h6 => ?_)
  · rw [e2, pu_up, pu_un _ _ (by decide), e1, pu_up, pu_u]
  · rw [e2, pu_up, pu_u]
  · rw [e2, pu_upn _ _ _ ha, e1, pu_upn _ _ _ ha]
  · rw [e2, pu_up, pu_un _ _ h6, e1, pu_up, pu_un _ _ h4]
section CH
variable {P : Bool → (Nat → Nat) → (Nat → Nat) → (Nat → Bool) → Nat → Mu → Mu → Prop} {hp s0 s1 : Bool} {m : HM} {k : Mu} {len siz : Nat → Nat} {ded : Nat → Bool} {n ang : Nat} {row : Nat → List Nat} {L : List Nat}
theorem ch_J (hF : pF P) (hJ : JS P len siz ded n ang row L hp s0 s1 m k) {len' siz' : Nat → Nat} {ded' : Nat → Bool} {n' ang' : Nat} {row' : Nat → List Nat} {y g q k' : Mu} (a1 : wf len' siz' n' ang' row') (a2 : stC len' siz' ded' n' ang' row' y) (a3 : stR len' siz' ded' n' ang' row' (k' 0)) (a4 : g 2 1 = 0) (a5 : hp = true → q = mu_up m.2.2.2.1 13 11 (-11)) (a6 : hp = false → q = m.2.2.2.1) (a7 : k' 32 4 = 0) (a8 : k' 32 6 = -11) (a9 : ∀ a, a ≠ 0 → a ≠ 32 → k' a = k a) (a10 : ∀ i, i ≠ 4 → i ≠ 6 → k' 32 i = k 32 i) : JP P hp s0 s1 (m.1, y, g, q, m.2.2.2.2) k' := by
  obtain ⟨hw, h2, h3, h4, h5, h6, h7, h8, h9⟩ := hJ
  refine ⟨len', siz', ded', n', ang', row', [], a1, a2, a3, ⟨by decide, a4, a7, fun i c hi => by simp at hi⟩, trivial, ?_, h7.keep (a9 1 (by decide) (by decide)) (a9 2 (by decide) (by decide)), h8.keep (a9 1 (by decide) (by decide)) (a9 2 (by decide) (by decide)), ?_⟩
  · show m.1 = k' 32 3
    rw [a10 3 (by decide) (by decide)]; exact h6
  · exact hF hp len siz ded n m.2.2.2.1 k len' siz' ded' n' q k' h9 a5 a6 (fun a h6 h32 => a9 a (by omega) h32) (fun i hi => a10 i (by omega) (by omega)) a8
theorem stC.setL {p x : Nat} {y : Mu} (hx : x ≤ 60) (h : stC len siz ded n ang row y) : stC (va_up len p x) siz ded n ang row (mu_up y 0 p (nI x)) := by
  obtain ⟨⟨h1, h2⟩, hB, h3⟩ := h
  refine ⟨⟨fun q hq => ?_, ?_⟩, ?_, by rw [pu_upn _ _ _ (by decide)]; exact h3⟩
  · by_cases e : q = p
    · subst e
      rw [pu_up, pu_u, va_up_self]
      exact ⟨rfl, hx⟩
    · rw [pu_up, pu_un _ _ e, va_up_ne _ _ e]
      exact h1 q hq
  · rw [pu_upn _ _ _ (by decide), pu_upn _ _ _ (by decide)]
    exact h2
  · unfold yB at hB ⊢
    rw [pu_upn _ _ _ (by decide), pu_upn _ _ _ (by decide), pu_upn _ _ _ (by decide), pu_upn _ _ _ (by decide)]
    exact hB
theorem stR.setL {p x : Nat} {f : Nat → Int32} (hp : p < 13) (hx : x ≤ 60) (h : stR len siz ded n ang row f) : stR (va_up len p x) siz ded n ang row (upd f p (nI x)) := by
  obtain ⟨⟨h1, h2, h3, h4, h5, h6, h7⟩, hB⟩ := h
  refine ⟨⟨fun q hq => ?_, ?_, ?_, h4, fun l hl => ?_, fun l hl => ?_, h7⟩, fun q hq => ?_⟩
  · by_cases e : q = p
    · subst e
      rw [pu_u, va_up_self]
      exact ⟨rfl, hx⟩
    · rw [pu_un _ _ e, va_up_ne _ _ e]
      exact h1 q hq
  · rw [pu_un _ _ (by omega)]; exact h2
  · rw [pu_un _ _ (by omega)]; exact h3
  · rw [pu_un _ _ (by omega)]; exact h5 l hl
  · rw [pu_un _ _ (by omega)]; exact h6 l hl
  · obtain ⟨b1, b2, b3⟩ := hB q hq
    refine ⟨by rw [pu_un _ _ (by omega)]; exact b1, b2, fun i l hl => ?_⟩
    rw [pu_un _ _ (by omega)]
    exact b3 i l hl
theorem wf.setL {p x : Nat} (h : wf len siz n ang row) (hx : sm siz (row p) ≤ x) (h12 : p = 12 → 0 < x) : wf (va_up len p x) siz n ang row := by
  obtain ⟨w1, w2, w3, w4, w5, w6, w7, w8⟩ := h
  refine ⟨w1, w2, w3, w4, fun q hq => ?_, w6, w7, ?_⟩
  · by_cases e : q = p
    · subst e; rw [va_up_self]; exact hx
    · rw [va_up_ne _ _ e]; exact w5 q hq
  · by_cases e : 12 = p
    · subst e; rw [va_up_self]; exact h12 rfl
    · rw [va_up_ne _ _ e]; exact w8
/-- the class's and the reference's change of a length -/
theorem o_len (hF : pF P) (hJ : JP P hp s0 s1 m k) {p x : Nat} (hpl : p < 13) (hx : x ≤ 60) (h12 : p = 12 → 0 < x) {K : Int32 → HM → Prop} (hK : ∀ r m1, (wX5_used (nI p) k (fun r5 : Int32 => ((r5 ≤ nI x → (vp_in (nI p) 148 ∧ ∀ x7 : Int32, x7 = (k 0 p) → (vp_in (nI p) 148 ∧ ∀ m8 : Mu, m8 = mu_up k 0 p (nI x) → wX5_change m8 (fun m9 : Mu => r = x7 ∧ JP P hp s0 s1 m1 m9)))) ∧ (¬ r5 ≤ nI x → r = (-5 : Int32) ∧ JP P hp s0 s1 m1 k)))) → K r m1) : wX4_changeLength (nI p) (nI x) hp s0 s1 m K := by
  obtain ⟨len, siz, ded, n, ang, row, L, hS⟩ := id hJ
  obtain ⟨hw, h2, h3, h4, h5, h6, h7, h8, h9⟩ := id hS
  have hsm : sm siz (row p) ≤ 60 := Nat.le_trans (hw.2.2.2.2.1 p hpl) (h2.1.1 p hpl).2
  refine t_usedAt hpl ?_
  rw [(h2.2.1 p hpl).2.1]
  refine ⟨fun q => t_lengthAt hpl (t4_changes (fun g q2 g1 g2 g3 => t_setLength hpl (fun k5 e5 m6 e6 => hK _ _ (t5_used h3.1 h3.2 hpl (hw.1 p hpl) ⟨fun _ => ⟨v148 (by omega), fun x7 e7 => ⟨v148 (by omega), fun m8 e8 => t5_change (fun k' c1 c2 c3 c4 => ⟨?_, ?_⟩)⟩⟩, fun z => absurd q z⟩))))  , fun q => hK _ _ (t5_used h3.1 h3.2 hpl (hw.1 p hpl) ⟨fun z => absurd z q, fun _ => ⟨rfl, hJ⟩⟩)⟩
  · rw [e7, (h2.1.1 p hpl).1, (h3.1.1 p hpl).1]
  · rw [e6]
    have hle : sm siz (row p) ≤ x := (nI_leI (by omega) (by omega)).mp q
    refine ch_J hF hS (hw.setL hle h12) (by rw [e5]; exact h2.setL hx) ?_ g1 g2 g3 c1 c2 (fun a h0 h32 => by rw [c3 a h32, e8, pu_upn _ _ _ h0]) (fun i i4 i6 => by rw [c4 i i4 i6, e8, pu_upn _ _ _ (by decide)])
    rw [c3 0 (by decide), e8, pu_up]
    exact h3.setL hpl hx
theorem o_0 (hF : pF P) (a1 a2 : Int32) (hJ : JP P hp s0 s1 m k) : ok_0 (JP P) a1 a2 hp s0 s1 m k := by
  unfold ok_0 wX4_setTrack
  rcases pos_or a1 with ⟨p, hpl, rfl⟩ | ⟨x1, x2⟩
  · refine c_pos hpl ⟨fun q => absurd q (by decide), fun _ => ?_⟩
    have bad : (a2 < 0 ∨ (60 : Int32) < a2) → wX5_setTrack (nI p) a2 k (fun y k1 => -4 = y ∧ JP P hp s0 s1 m k1) := fun hb => m_pos hpl ⟨fun q => absurd q (by decide), fun _ => by
      rcases hb with z | z
      · exact in_lo z ⟨fun _ => ⟨rfl, hJ⟩, fun q => absurd rfl q⟩
      · exact in_hi z ⟨fun _ => ⟨rfl, hJ⟩, fun q => absurd rfl q⟩⟩
    rcases neg_or a2 with z | ⟨x, hx, rfl⟩
    · exact ⟨fun _ => bad (Or.inl z), fun q => absurd z q⟩
    · refine ⟨fun z => absurd z (nI_pos hx), fun z0 => ⟨fun q => ?_, fun q => bad (Or.inr (Int32.not_le.mp q))⟩⟩
      have hx6 : x ≤ 60 := (nI_leI hx (b := 60) (by decide)).mp q
      refine o_len hF hJ (by omega) hx6 (fun z => absurd z (by omega)) (fun r m1 h => m_pos hpl ⟨fun q => absurd q (by decide), fun _ => in_yes z0 (Int32.not_lt.mpr q) ⟨fun q => absurd q (by decide), fun _ => ?_⟩⟩)
      rw [l0, nI_clamp (by omega)]
      exact h
  · exact c_posn x1 ⟨fun _ => m_posn x2 ⟨fun _ => ⟨rfl, hJ⟩, fun q => absurd rfl q⟩, fun q => absurd rfl q⟩
theorem o_1 (hF : pF P) (a1 : Int32) (hJ : JP P hp s0 s1 m k) : ok_1 (JP P) a1 hp s0 s1 m k := by
  unfold ok_1 wX4_setTableLength
  by_cases z : a1 < 1
  · exact ⟨fun _ => in_lo z ⟨fun _ => ⟨rfl, hJ⟩, fun q => absurd rfl q⟩, fun q => absurd z q⟩
  · refine ⟨fun q => absurd q z, fun _ => ⟨fun q => ?_, fun q => in_hi (Int32.not_le.mp q) ⟨fun _ => ⟨rfl, hJ⟩, fun q => absurd rfl q⟩⟩⟩
    rcases neg_or a1 with z2 | ⟨x, hx, rfl⟩
    · exact absurd (Int32.lt_trans z2 (by decide : (0 : Int32) < 1)) z
    · have hx6 : x ≤ 60 := (nI_leI hx (b := 60) (by decide)).mp q
      have hx1 : 0 < x := by
        rcases Nat.eq_zero_or_pos x with w | w
        · subst w; exact absurd (by decide) z
        · exact w
      refine o_len (p := 12) hF hJ (by decide) hx6 (fun _ => hx1) (fun r m1 h => in_yes z (Int32.not_lt.mpr q) ⟨fun q => absurd q (by decide), fun _ => ?_⟩)
      rw [c12]
      exact h
end CH
