/-! saved houses -/
theorem stR.ext {len siz : Nat → Nat} {ded : Nat → Bool} {n ang : Nat} {row : Nat → List Nat} {f g : Nat → Int32} (h : stR len siz ded n ang row f) (e : ∀ i, i < 148 → g i = f i) : stR len siz ded n ang row g := by
  refine ⟨h.1.keep (fun q hq => e q (by omega)), fun p hp => ?_⟩
  obtain ⟨b1, b2, b3⟩ := h.2 p hp
  refine ⟨by rw [e _ (by omega)]; exact b1, b2, fun i l hl => ?_⟩
  have := (List.getElem?_eq_some_iff.mp hl).1
  rw [e _ (by omega)]
  exact b3 i l hl
theorem stC.eq {len siz : Nat → Nat} {ded : Nat → Bool} {n ang : Nat} {row : Nat → List Nat} {y y' : Mu} (h : stC len siz ded n ang row y) (e : yE y y') : stC len siz ded n ang row y' := ⟨h.1.eq e, h.2.1.eq e, by rw [e.2.2.2.2.2]; exact h.2.2⟩
theorem sub_cat (a b : Mu) : mu_sub (mu_cat a 10 b) 10 = b := by
  funext i
  unfold mu_sub mu_cat
  have h : Nat.blt (10 + i) 10 = false := by
    cases h : Nat.blt (10 + i) 10 with
    | false => rfl
    | true => have := Nat.blt_eq.mp h; omega
  rw [h]
  show b (10 + i - 10) = b i
  rw [Nat.add_sub_cancel_left]
theorem c_copy {a b : Mu} {K : Mu → Prop} (h : ∀ k3, yE b k3 → mu_sub k3 10 = b → K k3) : wX3_copyFrom (mu_cat a 10 b) K := by
  refine t_copyFrom (fun m' h1 h2 => h m' ?_ ?_)
  · rw [sub_cat] at h1; exact h1
  · have e := sub_cat a b
    rw [← e]
    funext i
    exact h2 (10 + i) (by omega)
theorem slot_or (x : Int32) : (∃ s : Nat, s < 2 ∧ x = nI s) ∨ ((x < 0 ∨ (2 : Int32) ≤ x) ∧ (x < 0 ∨ (1 : Int32) < x)) := by
  rcases neg_or x with z | ⟨j, hj, rfl⟩
  · exact Or.inr ⟨Or.inl z, Or.inl z⟩
  · by_cases h : j < 2
    · exact Or.inl ⟨j, h, rfl⟩
    · exact Or.inr ⟨Or.inr (nI_le (a := 2) (by omega) hj), Or.inr (nI_lt (a := 1) (by omega) hj)⟩
section SL
variable {K : Int32 → Prop} {x : Int32} {s : Nat}
theorem c_slot (hs : s < 2) (h : K 1) : wX4_isSlot (nI s) K := ix_lo hs (by decide) h
theorem c_slotn (hx : x < 0 ∨ (2 : Int32) ≤ x) (h : K 0) : wX4_isSlot x K := ⟨fun _ => h, fun q => ⟨fun _ => h, fun q2 => by rcases hx with z | z; exact absurd z q; exact absurd z q2⟩⟩
theorem m_slot (hs : s < 2) (h : K 1) : wX5_in (nI s) 0 1 K := in_yes (nI_pos (by omega)) (nI_nlt (b := s) (a := 1) (by omega) (by decide)) h
theorem m_slotn (hx : x < 0 ∨ (1 : Int32) < x) (h : K 0) : wX5_in x 0 1 K := by
  rcases hx with z | z
  · exact in_lo z h
  · exact in_hi z h
theorem l148 (s i : Nat) : ((148 : Int32) * nI s) + nI i = nI (148 * s + i) := by
  rw [show (148 : Int32) = nI 148 from rfl, pk_mul, nI_add]
end SL
section SV
variable {k : Mu} {K : Int32 → Mu → Prop} {s : Nat}
theorem t5_save (hs : s < 2) (hK : ∀ k', (∀ i, i < 148 → k' 1 (148 * s + i) = k 0 i) → (∀ i, (i < 148 * s ∨ 148 * s + 148 ≤ i) → k' 1 i = k 1 i) → k' 2 = upd (k 2) s 1 → (∀ a, a ≠ 1 → a ≠ 2 → k' a = k a) → K (k 0 14) k') : ∀ d j k1, j + d = 148 → (∀ i, i < j → k1 1 (148 * s + i) = k 0 i) → (∀ i, (i < 148 * s ∨ 148 * s + 148 ≤ i) → k1 1 i = k 1 i) → (∀ a, a ≠ 1 → k1 a = k a) → lpX5_save_14 K (d + 1) (nI s) (nI j) k1 := by
  intro d
  induction d with
  | zero =>
    intro j k1 hj h1 h2 h3
    have e : j = 148 := by omega
    subst e
    unfold lpX5_save_14
    refine ⟨fun _ => ⟨vp_in_nI hs (by decide), fun m4 e4 => ⟨v148 (i := 14) (by decide), ?_⟩⟩, fun z => absurd (Int32.le_refl _) z⟩
    rw [nI_clamp (by omega)] at e4
    have e0 : m4 0 = k 0 := by rw [e4, pu_upn _ _ _ (by decide), h3 0 (by decide)]
    rw [c14, e0]
    refine hK m4 (fun i hi => ?_) (fun i hi => ?_) ?_ (fun a a1 a2 => ?_)
    · rw [e4, pu_upn _ _ _ (by decide)]; exact h1 i hi
    · rw [e4, pu_upn _ _ _ (by decide)]; exact h2 i hi
    · rw [e4, pu_up, h3 2 (by decide)]; rfl
    · rw [e4, pu_upn _ _ _ a2, h3 a a1]
  | succ d ih =>
    intro j k1 hj h1 h2 h3
    unfold lpX5_save_14
    rw [l148]
    refine ⟨fun z => absurd z (nI_ge (b := 148) (by omega) (by decide)), fun _ => ⟨v148 (by omega), vp_in_nI (by omega) (by decide), fun m5 e5 x6 e6 => ?_⟩⟩
    rw [nI_clamp (by omega), nI_clamp (by omega)] at e5
    rw [e6, nI_1]
    refine ih (j + 1) m5 (by omega) (fun i hi => ?_) (fun i hi => ?_) (fun a ha => by rw [e5, pu_upn _ _ _ ha, h3 a ha])
    · rw [e5, pu_up]
      by_cases e : i = j
      · subst e; rw [pu_u, h3 0 (by decide)]
      · rw [pu_un _ _ (by omega)]; exact h1 i (by omega)
    · rw [e5, pu_up, pu_un _ _ (by omega)]; exact h2 i hi
theorem t5_restore (hs : s < 2) (hK : ∀ k', (∀ i, i < 148 → k' 0 i = k 1 (148 * s + i)) → k' 32 4 = 0 → k' 32 6 = -11 → (∀ a, a ≠ 0 → a ≠ 32 → k' a = k a) → (∀ i, i ≠ 4 → i ≠ 6 → k' 32 i = k 32 i) → K (k' 0 14) k') : ∀ d j k1, j + d = 148 → (∀ i, i < j → k1 0 i = k 1 (148 * s + i)) → (∀ a, a ≠ 0 → k1 a = k a) → lpX5_restore_26 K (d + 1) (nI s) (nI j) k1 := by
  intro d
  induction d with
  | zero =>
    intro j k1 hj h1 h2
    have e : j = 148 := by omega
    subst e
    unfold lpX5_restore_26
    refine ⟨fun _ => t5_change (fun k' c1 c2 c3 c4 => ⟨v148 (i := 14) (by decide), ?_⟩), fun z => absurd (Int32.le_refl _) z⟩
    rw [c14]
    exact hK k' (fun i hi => by rw [c3 0 (by decide)]; exact h1 i hi) c1 c2 (fun a h0 h32 => by rw [c3 a h32, h2 a h0]) (fun i i4 i6 => by rw [c4 i i4 i6, h2 32 (by decide)])
  | succ d ih =>
    intro j k1 hj h1 h2
    unfold lpX5_restore_26
    rw [l148]
    refine ⟨fun z => absurd z (nI_ge (b := 148) (by omega) (by decide)), fun _ => ⟨vp_in_nI (by omega) (by decide), v148 (by omega), fun m5 e5 x6 e6 => ?_⟩⟩
    rw [nI_clamp (by omega), nI_clamp (by omega)] at e5
    rw [e6, nI_1]
    refine ih (j + 1) m5 (by omega) (fun i hi => ?_) (fun a ha => by rw [e5, pu_upn _ _ _ ha, h2 a ha])
    rw [e5, pu_up]
    by_cases e : i = j
    · subst e; rw [pu_u, h2 1 (by decide)]
    · rw [pu_un _ _ e]; exact h1 i (by omega)
end SV
section JV
variable {P : Bool → (Nat → Nat) → (Nat → Nat) → (Nat → Bool) → Nat → Mu → Mu → Prop} {hp s0 s1 : Bool} {m : HM} {k : Mu}
theorem o_20 (hF : pF P) (a1 : Int32) (hJ : JP P hp s0 s1 m k) : ok_20 (JP P) a1 hp s0 s1 m k := by
  obtain ⟨len, siz, ded, n, ang, row, L, hS⟩ := id hJ
  obtain ⟨hw, h2, h3, h4, h5, h6, h7, h8, h9⟩ := id hS
  unfold ok_20 wX4_restore
  rcases slot_or a1 with ⟨s, hs, rfl⟩ | ⟨x1, x2⟩
  · refine c_slot hs ⟨fun q => absurd q (by decide), fun _ => ?_⟩
    have ref : ∀ (r : Int32) (m1 : HM), (k 2 s = 0 → r = -10 ∧ JP P hp s0 s1 m1 k) → (¬ k 2 s = 0 → ∀ k', (∀ i, i < 148 → k' 0 i = k 1 (148 * s + i)) → k' 32 4 = 0 → k' 32 6 = -11 → (∀ a, a ≠ 0 → a ≠ 32 → k' a = k a) → (∀ i, i ≠ 4 → i ≠ 6 → k' 32 i = k 32 i) → r = k' 0 14 ∧ JP P hp s0 s1 m1 k') → wX5_restore (nI s) k (fun y k1 => r = y ∧ JP P hp s0 s1 m1 k1) := by
      intro r m1 hA hB
      refine m_slot hs ⟨fun q => absurd q (by decide), fun _ => ⟨vp_in_nI hs (by decide), ?_⟩⟩
      rw [nI_clamp (by omega)]
      exact ⟨hA, fun q => ⟨149, t5_restore hs (hB q) 148 0 k (by decide) (fun i hi => absurd hi (by omega)) (fun _ _ => rfl)⟩⟩
    have : s = 0 ∨ s = 1 := by omega
    rcases this with rfl | rfl
    · refine ⟨Or.inl rfl, fun _ => ⟨fun e => ?_, fun e => ref _ _ (fun _ => ⟨rfl, hJ⟩) (fun z => absurd (h7.1.mpr e) z)⟩, fun z => absurd z (by decide)⟩
      obtain ⟨len', siz', ded', n', ang', row', v1, v2, v3⟩ := h7.2 e
      subst e
      refine t4_changes (fun g q g1 g2 g3 => c_copy (fun k4 hE hsub m5 e5 => ref _ _ (fun z => absurd (h7.1.mp z) (by decide)) (fun _ k' c1 c2 c3 c4 c5 => ?_)))
      rw [hsub] at e5
      rw [e5]
      have hy := v2.eq hE
      have hr : stR len' siz' ded' n' ang' row' (k' 0) := v3.ext c1
      refine ⟨?_, ch_J hF hS v1 hy hr g1 g2 g3 c2 c3 c4 c5⟩
      rw [hr.1.2.2.1]
      exact hy.1.2.2.1
    · refine ⟨Or.inr rfl, fun z => absurd z (by decide), fun _ => ⟨fun e => ?_, fun e => ref _ _ (fun _ => ⟨rfl, hJ⟩) (fun z => absurd (h8.1.mpr e) z)⟩⟩
      obtain ⟨len', siz', ded', n', ang', row', v1, v2, v3⟩ := h8.2 e
      subst e
      refine t4_changes (fun g q g1 g2 g3 => c_copy (fun k4 hE hsub m5 e5 => ref _ _ (fun z => absurd (h8.1.mp z) (by decide)) (fun _ k' c1 c2 c3 c4 c5 => ?_)))
      rw [hsub] at e5
      rw [e5]
      have hy := v2.eq hE
      have hr : stR len' siz' ded' n' ang' row' (k' 0) := v3.ext c1
      refine ⟨?_, ch_J hF hS v1 hy hr g1 g2 g3 c2 c3 c4 c5⟩
      rw [hr.1.2.2.1]
      exact hy.1.2.2.1
  · exact c_slotn x1 ⟨fun _ => m_slotn x2 ⟨fun _ => ⟨rfl, hJ⟩, fun q => absurd rfl q⟩, fun q => absurd rfl q⟩
end JV
