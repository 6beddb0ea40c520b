/-! saving -/
section SW
variable {P : Bool → (Nat → Nat) → (Nat → Nat) → (Nat → Bool) → Nat → Mu → Mu → Prop} {hp s0 s1 : Bool} {m : HM} {k : Mu}
theorem slt.other {b : Bool} {q k' : Mu} {s : Nat} (h : slt b q k s) (e2 : k' 2 s = k 2 s) (e1 : ∀ i, i < 148 → k' 1 (148 * s + i) = k 1 (148 * s + i)) : slt b q k' s := by
  refine ⟨by rw [e2]; exact h.1, fun hb => ?_⟩
  obtain ⟨len, siz, ded, n, ang, row, v1, v2, v3⟩ := h.2 hb
  exact ⟨len, siz, ded, n, ang, row, v1, v2, v3.ext e1⟩
theorem o_19r {s : Nat} (hs : s < 2) {K : Int32 → Mu → Prop} (hK : ∀ k', (∀ i, i < 148 → k' 1 (148 * s + i) = k 0 i) → (∀ i, (i < 148 * s ∨ 148 * s + 148 ≤ i) → k' 1 i = k 1 i) → k' 2 = upd (k 2) s 1 → (∀ a, a ≠ 1 → a ≠ 2 → k' a = k a) → K (k 0 14) k') : wX5_save (nI s) k K :=
  m_slot hs ⟨fun q => absurd q (by decide), fun _ => ⟨149, t5_save hs hK 148 0 k (by decide) (fun i hi => absurd hi (by omega)) (fun _ _ => rfl) (fun _ _ => rfl)⟩⟩
theorem o_19a (hP : pK P) (hJ : JP P hp s0 s1 m k) (slot : Mu) : wX3_copyFrom (mu_cat slot 10 m.2.1) (fun k3 : Mu => ∀ m4 : HM, m4 = (m.1, (mu_sub k3 10), m.2.2.1, m.2.2.2.1, k3, m.2.2.2.2.2) → wX5_save (nI 0) k (fun y k1 => m4.2.1 8 5 = y ∧ JP P hp true s1 m4 k1)) := by
  obtain ⟨len, siz, ded, n, ang, row, L, hw, h2, h3, h4, h5, h6, h7, h8, h9⟩ := id hJ
  refine c_copy (fun k3 hE hsub m4 e4 => o_19r (by decide) (fun k' c1 c2 c3 c4 => ?_))
  rw [e4, hsub]
  refine ⟨?_, len, siz, ded, n, ang, row, L, hw, h2, by rw [c4 0 (by decide) (by decide)]; exact h3, ?_, h5, ?_, ⟨⟨fun z => ?_, fun z => absurd z (by decide)⟩, fun _ => ⟨len, siz, ded, n, ang, row, hw, h2.eq hE, h3.ext c1⟩⟩, ?_, ?_⟩
  · rw [h3.1.2.2.1]; exact h2.1.2.2.1
  · exact lgC.mk h4.c (by rw [c4 32 (by decide) (by decide), c4 5 (by decide) (by decide)]; exact h4.r)
  · show m.1 = k' 32 3
    rw [c4 32 (by decide) (by decide)]; exact h6
  · rw [c3, pu_u] at z; exact absurd z (by decide)
  · exact h8.other (by rw [c3, pu_un _ _ (by decide)]) (fun i hi => c2 _ (Or.inr (by omega)))
  · exact hP _ _ _ _ _ _ k k' (fun a h6 h32 => c4 a (by omega) (by omega)) (fun i hi => by rw [c4 32 (by decide) (by decide)]) h9
theorem o_19b (hP : pK P) (hJ : JP P hp s0 s1 m k) (slot : Mu) : wX3_copyFrom (mu_cat slot 10 m.2.1) (fun k3 : Mu => ∀ m4 : HM, m4 = (m.1, (mu_sub k3 10), m.2.2.1, m.2.2.2.1, m.2.2.2.2.1, k3) → wX5_save (nI 1) k (fun y k1 => m4.2.1 8 5 = y ∧ JP P hp s0 true m4 k1)) := by
  obtain ⟨len, siz, ded, n, ang, row, L, hw, h2, h3, h4, h5, h6, h7, h8, h9⟩ := id hJ
  refine c_copy (fun k3 hE hsub m4 e4 => o_19r (by decide) (fun k' c1 c2 c3 c4 => ?_))
  rw [e4, hsub]
  refine ⟨?_, len, siz, ded, n, ang, row, L, hw, h2, by rw [c4 0 (by decide) (by decide)]; exact h3, ?_, h5, ?_, ?_, ⟨⟨fun z => ?_, fun z => absurd z (by decide)⟩, fun _ => ⟨len, siz, ded, n, ang, row, hw, h2.eq hE, h3.ext c1⟩⟩, ?_⟩
  · rw [h3.1.2.2.1]; exact h2.1.2.2.1
  · exact lgC.mk h4.c (by rw [c4 32 (by decide) (by decide), c4 5 (by decide) (by decide)]; exact h4.r)
  · show m.1 = k' 32 3
    rw [c4 32 (by decide) (by decide)]; exact h6
  · exact h7.other (by rw [c3, pu_un _ _ (by decide)]) (fun i hi => c2 _ (Or.inl (by omega)))
  · rw [c3, pu_u] at z; exact absurd z (by decide)
  · exact hP _ _ _ _ _ _ k k' (fun a h6 h32 => c4 a (by omega) (by omega)) (fun i hi => by rw [c4 32 (by decide) (by decide)]) h9
theorem o_19 (hP : pK P) (a1 : Int32) (hJ : JP P hp s0 s1 m k) : ok_19 (JP P) a1 hp s0 s1 m k := by
  unfold ok_19 wX4_save
  rcases slot_or a1 with ⟨s, hs, rfl⟩ | ⟨x1, x2⟩
  · refine c_slot hs ⟨fun q => absurd q (by decide), fun _ => ?_⟩
    have : s = 0 ∨ s = 1 := by omega
    rcases this with rfl | rfl
    · refine ⟨Or.inl rfl, fun _ => ⟨fun e => o_19a hP hJ _, fun e => ⟨fun e2 => ⟨fun e3 m5 e5 => ?_, fun e3 m5 e5 => ?_⟩, fun e2 => ⟨fun e3 m5 e5 => ?_, fun e3 m5 e5 => ?_⟩⟩⟩, fun z => absurd z (by decide)⟩
      all_goals
        subst e2 e3
        rw [e5]
        exact o_19a hP hJ _
    · refine ⟨Or.inr rfl, fun z => absurd z (by decide), fun _ => ⟨fun e => o_19b hP hJ _, fun e => ⟨fun e2 => ⟨fun e3 m5 e5 => ?_, fun e3 m5 e5 => ?_⟩, fun e2 => ⟨fun e3 m5 e5 => ?_, fun e3 m5 e5 => ?_⟩⟩⟩⟩
      all_goals
        subst e2 e3
        rw [e5]
        exact o_19b hP hJ _
  · exact c_slotn x1 ⟨fun _ => m_slotn x2 ⟨fun _ => ⟨rfl, hJ⟩, fun q => absurd rfl q⟩, fun q => absurd rfl q⟩
end SW
