/-! turning -/
/-- the planners' part does not hang on what the house itself keeps -/
def pK (P : Bool → (Nat → Nat) → (Nat → Nat) → (Nat → Bool) → Nat → Mu → Mu → Prop) : Prop := ∀ hp len siz ded n q k k', (∀ a, 6 ≤ a → a ≠ 32 → k' a = k a) → (∀ i, 6 ≤ i → k' 32 i = k 32 i) → P hp len siz ded n q k → P hp len siz ded n q k'
def stp (d : Nat) : Nat := if d = 0 then 1 else 11
def tnA (d ang : Nat) : Nat → Nat
  | 0 => ang
  | i + 1 => (tnA d ang i + stp d) % 12
def tnL (d : Nat) (L : List Nat) : Nat → List Nat
  | 0 => L
  | i + 1 => addL (tnL d L i) d
theorem tnA_lt {d ang : Nat} (h : ang < 12) : ∀ i, tnA d ang i < 12
  | 0 => h
  | _ + 1 => Nat.mod_lt _ (by decide)
theorem tn_und {len siz : Nat → Nat} {n d ang : Nat} {row : Nat → List Nat} {L : List Nat} (hd : d < 2) (ha : ang < 12) (h : und len siz n L.reverse ang row) : ∀ i, und len siz n (tnL d L i).reverse (tnA d ang i) row
  | 0 => h
  | i + 1 => by
    have ih := tn_und hd ha h i
    have hl := tnA_lt (d := d) ha i
    show und len siz n (addL (tnL d L i) d).reverse ((tnA d ang i + stp d) % 12) row
    rw [addL_rev]
    have ih2 := und_cut ih
    unfold und
    have : d = 0 ∨ d = 1 := by omega
    rcases this with rfl | rfl
    · refine Or.inl ⟨rfl, ?_⟩
      rw [show ((tnA 0 ang i + stp 0) % 12 + 11) % 12 = tnA 0 ang i by show ((tnA 0 ang i + 1) % 12 + 11) % 12 = _; omega]
      exact ih2
    · refine Or.inr (Or.inl ⟨rfl, ?_⟩)
      rw [show ((tnA 1 ang i + stp 1) % 12 + 1) % 12 = tnA 1 ang i by show ((tnA 1 ang i + 11) % 12 + 1) % 12 = _; omega]
      exact ih2
theorem stC.turn {len siz : Nat → Nat} {ded : Nat → Bool} {n ang ang' : Nat} {row : Nat → List Nat} {m : Mu} (h : stC len siz ded n ang row m) : stC len siz ded n ang' row (mu_up m 8 7 (nI ang')) := by
  obtain ⟨hA, hB, h3⟩ := h
  refine ⟨?_, ?_, by rw [pu_up, pu_u]⟩
  · unfold yA at hA ⊢
    rw [pu_upn _ _ _ (by decide), pu_upn _ _ _ (by decide), pu_up, pu_un _ _ (by decide), pu_un _ _ (by decide)]
    exact hA
  · unfold yB at hB ⊢
    rw [pu_upn _ _ _ (by decide), pu_upn _ _ _ (by decide), pu_upn _ _ _ (by decide), pu_upn _ _ _ (by decide)]
    exact hB
theorem stR.turn {len siz : Nat → Nat} {ded : Nat → Bool} {n ang ang' : Nat} {row : Nat → List Nat} {f : Nat → Int32} (ha : ang' < 12) (h : stR len siz ded n ang row f) : stR len siz ded n ang' row (upd f 13 (nI ang')) := by
  obtain ⟨⟨h1, h2, h3, h4, h5, h6, h7⟩, hB⟩ := h
  refine ⟨⟨fun p hp => ?_, pu_u _ _ _, ?_, h4, fun l hl => ?_, fun l hl => ?_, ha⟩, fun p hp => ?_⟩
  · rw [pu_un _ _ (by omega)]; exact h1 p hp
  · rw [pu_un _ _ (by decide)]; exact h3
  · rw [pu_un _ _ (by omega)]; exact h5 l hl
  · rw [pu_un _ _ (by omega)]; exact h6 l hl
  · obtain ⟨b1, b2, b3⟩ := hB p hp
    refine ⟨by rw [pu_un _ _ (by omega)]; exact b1, b2, fun i l hl => ?_⟩
    rw [pu_un _ _ (by omega)]
    exact b3 i l hl
section TN
variable {len siz : Nat → Nat} {ded : Nat → Bool} {n ang t d : Nat} {row : Nat → List Nat} {L : List Nat}
theorem t4_turn {m : HM} {K : Int32 → HM → Prop} (hd : d < 2) (ha : ang < 12) (ht : t < 12) (hK : ∀ y g, stC len siz ded n (tnA d ang t) row y → lgS (tnL d L t) (g 2 1) (g 0) → K (nI (tnA d ang t)) (m.1 + nI t, y, g, m.2.2.2)) : ∀ r i y g, i + r = t → stC len siz ded n (tnA d ang i) row y → lgS (tnL d L i) (g 2 1) (g 0) → lpX4_turn_37 K (r + 1) (nI d) (nI t) (nI i) (m.1, y, g, m.2.2.2) := by
  intro r
  induction r with
  | zero =>
    intro i y g hi hy hg
    have e : i = t := by omega
    subst e
    unfold lpX4_turn_37
    refine ⟨fun _ m7 e7 => ?_, fun z => absurd (Int32.le_refl _) z⟩
    rw [e7]
    have := hK y g hy hg
    rw [← hy.2.2] at this
    exact this
  | succ r ih =>
    intro i y g hi hy hg
    have hl := tnA_lt (d := d) ha i
    unfold lpX4_turn_37
    refine ⟨fun z => absurd z (nI_ge (by omega) (by omega)), fun _ => ?_⟩
    have key : ∀ k8 : Mu, k8 = mu_up y 8 7 (nI (tnA d ang (i + 1))) → ∀ m9 : HM, m9 = (m.1, k8, g, m.2.2.2) → wX0_append (nI d) m9.2.2.1 (fun k10 : Mu => ∀ m11 : HM, m11 = (m9.1, m9.2.1, k10, m9.2.2.2) → ∀ x12 : Int32, x12 = nI i + (1 : Int32) → lpX4_turn_37 K (r + 1) (nI d) (nI t) x12 m11) := by
      intro k8 e8 m9 e9
      rw [e9]
      refine t0_append hg (fun k10 h10 m11 e11 x12 e12 => ?_)
      rw [e11, e12, nI_1]
      refine ih (i + 1) k8 k10 (by omega) ?_ h10
      rw [e8]
      exact hy.turn
    have : d = 0 ∨ d = 1 := by omega
    rcases this with rfl | rfl
    · exact t_carry0 hy.2.2 hl key
    · exact t_carry1 hy.2.2 hl key
theorem t5_turnL {k : Mu} {x : Int32} {K : Int32 → Mu → Prop} (hd : d < 2) (hx : 0 ≤ x ↔ d = 0) (ha : ang < 12) (ht : t < 12) (hK : ∀ k', stR len siz ded n (tnA d ang t) row (k' 0) → lgS (tnL d L t) (k' 32 4) (k' 5) → k' 32 3 = k 32 3 + nI t → (∀ a, a ≠ 0 → a ≠ 5 → a ≠ 32 → k' a = k a) → (∀ i, i ≠ 3 → i ≠ 4 → k' 32 i = k 32 i) → K (nI (tnA d ang t)) k') : ∀ r i k1, i + r = t → stR len siz ded n (tnA d ang i) row (k1 0) → lgS (tnL d L i) (k1 32 4) (k1 5) → k1 32 3 = k 32 3 + nI i → (∀ a, a ≠ 0 → a ≠ 5 → a ≠ 32 → k1 a = k a) → (∀ i, i ≠ 3 → i ≠ 4 → k1 32 i = k 32 i) → lpX5_turn_31 K (r + 1) x (nI t) (nI i) k1 := by
  intro r
  induction r with
  | zero =>
    intro i k1 hi h1 h2 h3 h4 h5
    have e : i = t := by omega
    subst e
    unfold lpX5_turn_31
    refine ⟨fun _ => ⟨v148 (i := 13) (by decide), ?_⟩, fun z => absurd (Int32.le_refl _) z⟩
    rw [c13, h1.1.2.1]
    exact hK k1 h1 h2 h3 h4 h5
  | succ r ih =>
    intro i k1 hi h1 h2 h3 h4 h5
    have hl := tnA_lt (d := d) ha i
    unfold lpX5_turn_31
    refine ⟨fun z => absurd z (nI_ge (by omega) (by omega)), fun _ => ?_⟩
    have key : ∀ m7 : Mu, m7 = mu_up k1 0 13 (nI (tnA d ang (i + 1))) → wX5_write (nI d) m7 (fun m9 : Mu => ∀ m10 : Mu, m10 = mu_up m9 32 3 ((m9 32 3) + (1 : Int32)) → ∀ x11 : Int32, x11 = nI i + (1 : Int32) → lpX5_turn_31 K (r + 1) x (nI t) x11 m10) := by
      intro m7 e7
      refine t5_write (L := tnL d L i) (by rw [e7, pu_upn _ _ _ (by decide), pu_upn _ _ _ (by decide)]; exact h2) (fun m9 g1 g2 g3 m10 e10 x11 e11 => ?_)
      rw [e11, nI_1]
      have e0 : m10 0 = upd (k1 0) 13 (nI (tnA d ang (i + 1))) := by rw [e10, pu_upn _ _ _ (by decide), g2 0 (by decide) (by decide), e7, pu_up]
      refine ih (i + 1) m10 (by omega) ?_ ?_ ?_ (fun a h0 h5 h32 => ?_) (fun j j3 j4 => ?_)
      · rw [e0]
        exact h1.turn (tnA_lt ha (i + 1))
      · rw [e10, pu_up, pu_un _ _ (by decide), pu_upn _ _ _ (by decide)]
        exact g1
      · rw [e10, pu_up, pu_u, g3 3 (by decide), e7, pu_upn _ _ _ (by decide), h3, Int32.add_assoc, nI_1]
      · rw [e10, pu_upn _ _ _ h32, g2 a h5 h32, e7, pu_upn _ _ _ h0]
        exact h4 a h0 h5 h32
      · rw [e10, pu_up, pu_un _ _ j3, g3 j j4, e7, pu_upn _ _ _ (by decide)]
        exact h5 j j3 j4
    have e13 := h1.1.2.1
    have : d = 0 ∨ d = 1 := by omega
    rcases this with rfl | rfl
    · refine ⟨fun _ => ⟨v148 (i := 13) (by decide), v148 (i := 13) (by decide), fun m1 e1 => ⟨fun _ => key m1 ?_, fun z => absurd (hx.mpr rfl) z⟩⟩, fun z => absurd (hx.mpr rfl) z⟩
      rw [c13, e13, nI_1, show (12 : Int32) = nI 12 from rfl, nI_add] at e1
      rw [e1]
      have : am_rem (nI (tnA 0 ang i + 1 + 12)) (nI 12) = nI (tnA 0 ang (i + 1)) := by
        rw [show am_rem (nI (tnA 0 ang i + 1 + 12)) (nI 12) = nI ((tnA 0 ang i + 1 + 12) % 12) from rem12 (by omega), Nat.add_mod_right]
        rfl
      rw [this]
    · have hn : ¬ 0 ≤ x := fun z => absurd (hx.mp z) (by decide)
      refine ⟨fun z => absurd z hn, fun _ => ⟨v148 (i := 13) (by decide), v148 (i := 13) (by decide), fun m1 e1 => ⟨fun z => absurd z hn, fun _ => key m1 ?_⟩⟩⟩
      have e2 : nI (tnA 1 ang i) + (-1 : Int32) + 12 = nI (tnA 1 ang i + 11) := by
        rw [Int32.add_assoc, show (-1 : Int32) + 12 = nI 11 by decide, nI_add]
      rw [c13, e13, e2] at e1
      rw [e1]
      have : am_rem (nI (tnA 1 ang i + 11)) 12 = nI (tnA 1 ang (i + 1)) := rem12 (by omega)
      rw [this]
end TN
theorem neg_11 {x : Int32} (h : x < 0) (h2 : ¬ x < -11) : ∃ t : Nat, 1 ≤ t ∧ t < 12 ∧ -x = nI t := by
  have e : x = Int32.ofInt x.toInt := by simp
  have h' : x.toInt < 0 := by
    have := Int32.lt_iff_toInt_lt.mp h
    exact this
  have h3 : ¬ x.toInt < -11 := fun z => h2 (Int32.lt_iff_toInt_lt.mpr z)
  generalize x.toInt = z at e h' h3
  have hz : z = -1 ∨ z = -2 ∨ z = -3 ∨ z = -4 ∨ z = -5 ∨ z = -6 ∨ z = -7 ∨ z = -8 ∨ z = -9 ∨ z = -10 ∨ z = -11 := by omega
  refine ⟨(-z).toNat, by omega, by omega, ?_⟩
  rw [e]
  rcases hz with rfl | rfl | rfl | rfl | rfl | rfl | rfl | rfl | rfl | rfl | rfl <;> decide
theorem turn_or (x : Int32) : (∃ t : Nat, 1 ≤ t ∧ t < 12 ∧ x = nI t) ∨ (x < 0 ∧ ¬ x < -11 ∧ ∃ t : Nat, 1 ≤ t ∧ t < 12 ∧ -x = nI t) ∨ x = 0 ∨ x < -11 ∨ (11 : Int32) < x := by
  rcases neg_or x with z | ⟨j, hj, rfl⟩
  · by_cases h : x < -11
    · exact Or.inr (Or.inr (Or.inr (Or.inl h)))
    · exact Or.inr (Or.inl ⟨z, h, neg_11 z h⟩)
  · by_cases h0 : j = 0
    · subst h0; exact Or.inr (Or.inr (Or.inl rfl))
    · by_cases h : j < 12
      · exact Or.inl ⟨j, by omega, h, rfl⟩
      · exact Or.inr (Or.inr (Or.inr (Or.inr (nI_lt (a := 11) (by omega) hj))))
section JT
variable {P : Bool → (Nat → Nat) → (Nat → Nat) → (Nat → Bool) → Nat → Mu → Mu → Prop} {hp s0 s1 : Bool} {m : HM} {k : Mu}
theorem slt.keep {b : Bool} {q k k' : Mu} {s : Nat} (h : slt b q k s) (e1 : k' 1 = k 1) (e2 : k' 2 = k 2) : slt b q k' s := by
  unfold slt at h ⊢
  rw [e1, e2]
  exact h
theorem o_11t {d t : Nat} {a1 : Int32} (hP : pK P) (hd : d < 2) (hx : 0 ≤ a1 ↔ d = 0) (ht : t < 12) (hJ : JP P hp s0 s1 m k) {K : Int32 → HM → Prop} (hK : ∀ x m1, lpX5_turn_31 (fun y k1 => x = y ∧ JP P hp s0 s1 m1 k1) (t + 1) a1 (nI t) (nI 0) k → K x m1) : lpX4_turn_37 K (t + 1) (nI d) (nI t) (nI 0) m := by
  obtain ⟨len, siz, ded, n, ang, row, L, hw, h2, h3, h4, h5, h6, h7, h8, h9⟩ := id hJ
  have ha := hw.2.2.2.2.2.1
  refine t4_turn (m := m) (L := L) (ang := ang) hd ha ht (fun y g g1 g2 => hK _ _ ?_) t 0 m.2.1 m.2.2.1 (by omega) h2 h4.c
  refine t5_turnL (k := k) (L := L) (ang := ang) hd hx ha ht (fun k' q1 q2 q3 q4 q5 => ⟨rfl, ?_⟩) t 0 k (by omega) h3 h4.r (by rw [nI_0, Int32.add_zero]) (fun _ _ _ _ => rfl) (fun _ _ _ => rfl)
  refine ⟨len, siz, ded, n, tnA d ang t, row, tnL d L t, ?_, g1, q1, lgC.mk g2 q2, tn_und hd ha h5 t, ?_, h7.keep (q4 1 (by decide) (by decide) (by decide)) (q4 2 (by decide) (by decide) (by decide)), h8.keep (q4 1 (by decide) (by decide) (by decide)) (q4 2 (by decide) (by decide) (by decide)), ?_⟩
  · obtain ⟨w1, w2, w3, w4, w5, w6, w7⟩ := hw
    exact ⟨w1, w2, w3, w4, w5, tnA_lt ha t, w7⟩
  · show m.1 + nI t = k' 32 3
    rw [q3, h6]
  · exact hP _ _ _ _ _ _ k k' (fun a h6 h32 => q4 a (by omega) (by omega) h32) (fun i hi => q5 i (by omega) (by omega)) h9
theorem o_11 (hP : pK P) (a1 : Int32) (hJ : JP P hp s0 s1 m k) : ok_11 (JP P) a1 hp s0 s1 m k := by
  unfold ok_11 wX4_turn
  rcases turn_or a1 with ⟨t, h1, h2, rfl⟩ | ⟨z1, z2, t, h1, h2, e⟩ | rfl | z | z
  · refine ⟨fun z => absurd z (nI_ne0 h1 (by omega)), fun z0 => ⟨fun z => absurd z (fun z => absurd (Int32.lt_trans z (by decide : (-11 : Int32) < 0)) (nI_pos (by omega))), fun z11 => ⟨fun _ => ⟨fun z => absurd z (nI_nle h1 (by omega)), fun _ => ⟨fun _ => ⟨t + 1, ?_⟩, fun z => absurd (nI_pos' (by omega)) z⟩⟩, fun z => absurd (nI_le (b := 11) (by omega) (by decide)) z⟩⟩⟩
    refine o_11t (a1 := nI t) (d := 0) (t := t) hP (by decide) ⟨fun _ => rfl, fun _ => nI_pos' (by omega)⟩ h2 hJ (fun x m1 h => ?_)
    exact in_yes z11 (nI_nlt (a := 11) (by omega) (by decide)) ⟨fun z => absurd z (by decide), fun _ => ⟨fun z => absurd z z0, fun _ => ⟨fun _ => ⟨t + 1, h⟩, fun z => absurd (nI_pos' (by omega)) z⟩⟩⟩
  · have z0 : ¬ a1 = 0 := fun q => by subst q; exact absurd z1 (by decide)
    have z3 : ¬ 0 ≤ a1 := Int32.not_le.mpr z1
    have z4 : a1 ≤ 0 := Int32.le_of_lt z1
    have z5 : ¬ (11 : Int32) < a1 := fun q => absurd (Int32.lt_trans q z1) (by decide)
    refine ⟨fun z => absurd z z0, fun _ => ⟨fun z => absurd z z2, fun _ => ⟨fun _ => ⟨fun _ => ⟨fun z => absurd z z3, fun _ => ⟨t + 1, ?_⟩⟩, fun z => absurd z4 z⟩, fun z => absurd (Int32.not_lt.mp z5) z⟩⟩⟩
    rw [e]
    refine o_11t (a1 := a1) (d := 1) (t := t) hP (by decide) ⟨fun z => absurd z z3, fun z => absurd z (by decide)⟩ h2 hJ (fun x m1 h => ?_)
    exact in_yes z2 z5 ⟨fun z => absurd z (by decide), fun _ => ⟨fun z => absurd z z0, fun _ => ⟨fun z => absurd z z3, fun _ x16 e16 => ⟨t + 1, by rw [e16, e]; exact h⟩⟩⟩⟩
  · exact ⟨fun _ => in_yes (by decide) (by decide) ⟨fun z => absurd z (by decide), fun _ => ⟨fun _ => ⟨rfl, hJ⟩, fun z => absurd rfl z⟩⟩, fun z => absurd rfl z⟩
  · refine ⟨fun q => by subst q; exact absurd z (by decide), fun _ => ⟨fun _ => in_lo z ⟨fun _ => ⟨rfl, hJ⟩, fun q => absurd rfl q⟩, fun q => absurd z q⟩⟩
  · have key : wX5_turn a1 k (fun y k1 => -4 = y ∧ JP P hp s0 s1 m k1) := in_hi z ⟨fun _ => ⟨rfl, hJ⟩, fun q => absurd rfl q⟩
    refine ⟨fun q => key, fun _ => ⟨fun _ => key, fun _ => ⟨fun q => absurd z (Int32.not_lt.mpr q), fun _ => key⟩⟩⟩
end JT
