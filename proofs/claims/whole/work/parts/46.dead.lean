/-! the dead -/
section DD
variable {P : Bool → (Nat → Nat) → (Nat → Nat) → (Nat → Bool) → Nat → Mu → Mu → Prop} {hp s0 s1 : Bool} {m : HM} {k : Mu} {len siz : Nat → Nat} {ded : Nat → Bool} {n ang : Nat} {row : Nat → List Nat}
theorem stC.setD {ded' : Nat → Bool} {D' : Nat} {y : Mu} (hD : D' < 256) (hd : ∀ l, l < n → D'.testBit l = ded' l) (h : stC len siz ded n ang row y) : stC len siz ded' n ang row (mu_up y 8 6 (nI D')) := by
  obtain ⟨⟨h1, h2, h3, h4, h5⟩, hB, h7⟩ := h
  refine ⟨⟨?_, ?_, ?_, h4, D', hD, ?_, hd⟩, ?_, ?_⟩
  · rw [pu_upn _ _ _ (by decide)]; exact h1
  · rw [pu_upn _ _ _ (by decide)]; exact h2
  · rw [pu_up, pu_un _ _ (by decide)]; exact h3
  · rw [pu_up, pu_u]
  · unfold yB at hB ⊢
    rw [pu_upn _ _ _ (by decide), pu_upn _ _ _ (by decide), pu_upn _ _ _ (by decide), pu_upn _ _ _ (by decide)]
    exact hB
  · rw [pu_up, pu_un _ _ (by decide)]; exact h7
theorem stR.setD {l : Nat} {b : Bool} {f : Nat → Int32} (hl : l < n) (h : stR len siz ded n ang row f) : stR len siz (va_up ded l b) n ang row (upd f (23 + l) (if b then 1 else 0)) := by
  obtain ⟨⟨h1, h2, h3, h4, h5, h6, h7⟩, hB⟩ := h
  refine ⟨⟨fun q hq => ?_, ?_, ?_, h4, fun j hj => ?_, fun j hj => ?_, h7⟩, fun q hq => ?_⟩
  · rw [pu_un _ _ (by omega)]; exact h1 q hq
  · rw [pu_un _ _ (by omega)]; exact h2
  · rw [pu_un _ _ (by omega)]; exact h3
  · rw [pu_un _ _ (by omega)]; exact h5 j hj
  · by_cases e : j = l
    · subst e; rw [pu_u, va_up_self]
    · rw [pu_un _ _ (by omega), va_up_ne _ _ e]; exact h6 j hj
  · obtain ⟨b1, b2, b3⟩ := hB q hq
    refine ⟨by rw [pu_un _ _ (by omega)]; exact b1, b2, fun i l hl => ?_⟩
    rw [pu_un _ _ (by omega)]
    exact b3 i l hl
theorem o_4x (hF : pF P) (a1 x : Int32) (hJ : JP P hp s0 s1 m k) : wX4_setDead a1 x hp s0 s1 m (fun r m1 => wX5_setDead a1 x k (fun y k1 => r = y ∧ JP P hp s0 s1 m1 k1)) := by
  obtain ⟨len, siz, ded, n, ang, row, L, hS⟩ := id hJ
  obtain ⟨hw, h2, h3, h4, h5, h6, h7, h8, h9⟩ := id hS
  have hn8 := hw.2.2.2.2.2.2.1
  obtain ⟨y1, y2, yn, y4, D, D8, eD, hD⟩ := h2.1
  have rn := h3.1.2.2.1
  unfold wX4_setDead
  rcases loc_or n hn8 a1 with ⟨l, hl, rfl⟩ | hx
  · refine t_isLoc yn hn8 hl ⟨fun q => absurd q (by decide), fun _ => t_isAlive yn hn8 eD D8 hl ?_⟩
    have key : ∀ r : Int32, r = (if ded l then 1 else 0) → wX4_houseChanges hp s0 s1 m (fun m5 : HM => wX3_markDead (nI l) x m5.2.1 (fun k6 : Mu => ∀ m7 : HM, m7 = (m5.1, k6, m5.2.2) → wX5_setDead (nI l) x k (fun y k1 => r = y ∧ JP P hp s0 s1 m7 k1))) := by
      intro r er
      refine t4_changes (fun g q g1 g2 g3 => t_markDead yn hn8 hl eD D8 (fun k6 D' e6 D6 hD6 m7 e7 => ?_))
      rw [e7]
      refine m_loc rn hn8 hl ⟨fun q => absurd q (by decide), fun _ => ?_⟩
      rw [l23]
      refine ⟨v148 (by omega), fun x3 e3 => ?_⟩
      rw [nI_clamp (by omega), h3.1.2.2.2.2.2.1 l hl] at e3
      have hst : stC len siz (va_up ded l (!(decide (x = 0)))) n ang row k6 := by
        rw [e6]
        refine h2.setD D6 (fun j hj => ?_)
        rw [hD6 j (by omega)]
        by_cases e : j = l
        · subst e; rw [if_pos rfl, va_up_self]
        · rw [if_neg e, va_up_ne _ _ e]; exact hD j hj
      have fin : ∀ m5 : Mu, m5 = mu_up k 0 (23 + l) (if (!(decide (x = 0))) then 1 else 0) → wX5_change m5 (fun m6 => r = x3 ∧ JP P hp s0 s1 (m.1, k6, g, q, m.2.2.2.2) m6) := by
        intro m5 e5
        refine t5_change (fun k' c1 c2 c3 c4 => ⟨by rw [er, e3], ?_⟩)
        refine ch_J hF hS hw hst ?_ g1 g2 g3 c1 c2 (fun a h0 h32 => by rw [c3 a h32, e5, pu_upn _ _ _ h0]) (fun i i4 i6 => by rw [c4 i i4 i6, e5, pu_upn _ _ _ (by decide)])
        rw [c3 0 (by decide), e5, pu_up]
        exact h3.setD hl
      refine ⟨fun z => ⟨v148 (by omega), fun m5 e5 => fin m5 ?_⟩, fun z => ⟨v148 (by omega), fun m5 e5 => fin m5 ?_⟩⟩
      · rw [e5, nI_clamp (by omega)]; simp [z]
      · rw [e5, nI_clamp (by omega)]; simp [z]
    rw [hD l hl]
    cases hb : ded l with
    | true => exact ⟨fun _ => key 1 (by rw [hb]; rfl), fun z => absurd rfl z⟩
    | false => exact ⟨fun z => absurd z (by decide), fun _ => key 0 (by rw [hb]; rfl)⟩
  · exact t_isLoc_no yn hx ⟨fun _ => m_locn rn hn8 hx ⟨fun _ => ⟨rfl, hJ⟩, fun q => absurd rfl q⟩, fun q => absurd rfl q⟩
theorem o_4 (hF : pF P) (a1 a2 : Int32) (hJ : JP P hp s0 s1 m k) : ok_4 (JP P) a1 a2 hp s0 s1 m k := ⟨fun _ => o_4x hF a1 0 hJ, fun _ => o_4x hF a1 1 hJ⟩
end DD
