/-! taking back -/
section UD
variable {P : Bool → (Nat → Nat) → (Nat → Nat) → (Nat → Bool) → Nat → Mu → Mu → Prop} {hp s0 s1 : Bool} {m : HM} {k : Mu}
theorem lgS.last {L0 : List Nat} {c : Nat} {x : Int32} {f : Nat → Int32} (h : lgS (L0 ++ [c]) x f) : lgS L0 (nI L0.length) f ∧ x = nI (L0.length + 1) ∧ f L0.length = nI c ∧ L0.length < 40 := by
  obtain ⟨h1, h2, h3⟩ := h
  simp at h1 h2
  refine ⟨⟨by omega, rfl, fun i d hi => h3 i d ?_⟩, h2, h3 _ _ (by simp), by omega⟩
  have := (List.getElem?_eq_some_iff.mp hi).1
  rw [List.getElem?_append_left this]
  exact hi
theorem t4_undo {L0 : List Nat} {c : Nat} {K : Int32 → HM → Prop} (h : lgS (L0 ++ [c]) (m.2.2.1 2 1) (m.2.2.1 0)) (hc : c < 100) (hK : ∀ g, lgS L0 (g 2 1) (g 0) → wX4_reverseOf (nI c) (fun r5 : Int32 => wX3_carryOut r5 m.2.1 (fun k6 : Mu => ∀ m7 : HM, m7 = (m.1, k6, g, m.2.2.2) → K (nI c) m7))) : wX4_undo hp s0 s1 m K := by
  obtain ⟨e1, e2, e3, e4⟩ := h.last
  have hn : ¬ nI c = (-11 : Int32) := ne_m11 (by omega)
  have e5 : nI (L0.length + 1) - 1 - 0 = nI L0.length := by rw [Int32.sub_zero, nI_pred]
  unfold wX4_undo wX0_removeLatest wX0_latest
  rw [e2, e5, nI_clamp (by omega), e3]
  refine ⟨fun z => absurd z (by decide), fun _ => ⟨fun z => absurd z (nI_nle (by omega) (by omega)), fun _ => ⟨fun z => absurd z (nI_nlt (a := 40) (by omega) (by decide)), fun _ => ⟨vp_in_nI (by omega) (by decide), fun z => absurd z hn, fun _ m3 e6 m2 e7 => ⟨fun z => absurd z hn, fun _ => ?_⟩⟩⟩⟩⟩
  rw [nI_pred] at e6
  have h3 : lgS L0 (m3 2 1) (m3 0) := by
    rw [e6, pu_up, pu_u, pu_upn _ _ _ (by decide)]
    exact e1
  rw [e7]
  exact hK m3 h3
theorem t5_undo {L0 : List Nat} {c : Nat} {K : Int32 → Mu → Prop} (h : lgS (L0 ++ [c]) (k 32 4) (k 5)) (hK : ∀ k2, lgS L0 (k2 32 4) (k2 5) → (∀ a, a ≠ 32 → k2 a = k a) → (∀ i, i ≠ 4 → k2 32 i = k 32 i) → (((2 : Int32) ≤ nI c → (((30 : Int32) ≤ nI c → wX5_goIn ((nI c / (10 : Int32)) - (3 : Int32)) (am_rem (nI c) (10 : Int32)) k2 (fun m6 : Mu => K (nI c) m6)) ∧ (¬ (30 : Int32) ≤ nI c → wX5_goOut ((nI c / (10 : Int32)) - (1 : Int32)) (am_rem (nI c) (10 : Int32)) k2 (fun m7 : Mu => K (nI c) m7)))) ∧ (¬ (2 : Int32) ≤ nI c → ((nI c = 0 → wX5_turnBy (-1 : Int32) k2 (fun m9 : Mu => K (nI c) m9)) ∧ (¬ nI c = 0 → wX5_turnBy (1 : Int32) k2 (fun m10 : Mu => K (nI c) m10)))))) : wX5_undo k K := by
  obtain ⟨e1, e2, e3, e4⟩ := h.last
  unfold wX5_undo
  refine ⟨fun z => ?_, fun _ m2 f2 => ?_⟩
  · rw [e2] at z
    exact absurd z (nI_ne0 (by omega) (by omega))
  · rw [e2, nI_pred] at f2
    have g1 : m2 32 4 = nI L0.length := by rw [f2, pu_up, pu_u]
    have g2 : m2 5 = k 5 := by rw [f2, pu_upn _ _ _ (by decide)]
    refine ⟨by rw [g1]; exact vp_in_nI (by omega) (by decide), fun x3 f3 => ?_⟩
    rw [g1, g2, nI_clamp (by omega), e3] at f3
    rw [f3]
    exact hK m2 (by rw [g1, g2]; exact e1) (fun a ha => by rw [f2, pu_upn _ _ _ ha]) (fun i hi => by rw [f2, pu_up, pu_un _ _ hi])
theorem o_15 (hP : pK P) (hJ : JP P hp s0 s1 m k) : ok_15 (JP P) hp s0 s1 m k := by
  obtain ⟨len, siz, ded, n, ang, row, L, hw, h2, h3, h4, h5, h6, h7, h8, h9⟩ := id hJ
  have ha := hw.2.2.2.2.2.1
  unfold ok_15
  rcases List.eq_nil_or_concat L with rfl | ⟨L0, c, eL⟩
  · have e1 : m.2.2.1 2 1 = 0 := h4.2.1
    have e2 : k 32 4 = 0 := h4.2.2.1
    have key : ∀ m2 : HM, m2 = m → wX5_undo k (fun y k1 => -11 = y ∧ JP P hp s0 s1 m2 k1) := fun m2 e => ⟨fun _ => ⟨rfl, by rw [e]; exact hJ⟩, fun z => absurd e2 z⟩
    unfold wX4_undo wX0_removeLatest wX0_latest
    rw [e1]
    exact ⟨fun z => absurd z (by decide), fun _ => ⟨fun _ => ⟨fun _ m2 em => ⟨fun _ => key m2 em, fun z => absurd rfl z⟩, fun z => absurd rfl z⟩, fun z => absurd (Int32.le_refl _) z⟩⟩
  · rw [List.concat_eq_append] at eL
    subst eL
    rw [List.reverse_append] at h5
    have h5' : und len siz n (c :: L0.reverse) ang row := h5
    unfold und at h5'
    -- the new state
    have mkJ : ∀ (ang' : Nat) (row' : Nat → List Nat) (y g k' : Mu), wf len siz n ang' row' → stC len siz ded n ang' row' y → stR len siz ded n ang' row' (k' 0) → lgS L0 (g 2 1) (g 0) → lgS L0 (k' 32 4) (k' 5) → und len siz n L0.reverse ang' row' → (∀ a, a ≠ 0 → a ≠ 32 → k' a = k a) → (∀ i, i ≠ 4 → k' 32 i = k 32 i) → JP P hp s0 s1 (m.1, y, g, m.2.2.2) k' := by
      intro ang' row' y g k' a1 a2 a3 a4 a5 a6 a7 a8
      refine ⟨len, siz, ded, n, ang', row', L0, a1, a2, a3, lgC.mk a4 a5, a6, ?_, h7.keep (a7 1 (by decide) (by decide)) (a7 2 (by decide) (by decide)), h8.keep (a7 1 (by decide) (by decide)) (a7 2 (by decide) (by decide)), ?_⟩
      · show m.1 = k' 32 3
        rw [a8 3 (by decide)]; exact h6
      · exact hP _ _ _ _ _ _ k k' (fun a h6 h32 => a7 a (by omega) h32) (fun i hi => a8 i (by omega)) h9
    have hwa : ∀ ang', ang' < 12 → wf len siz n ang' row := fun ang' h => ⟨hw.1, hw.2.1, hw.2.2.1, hw.2.2.2.1, hw.2.2.2.2.1, h, hw.2.2.2.2.2.2⟩
    rcases h5' with ⟨rfl, u⟩ | ⟨rfl, u⟩ | ⟨kd, t, hk, t1, t8, rfl, u1, u2, u3⟩
    · refine t4_undo h4.c (by decide) (fun g hg => ⟨fun _ => t_carry1 h2.2.2 ha (fun k6 e6 m7 e7 => ?_), fun z => absurd rfl z⟩)
      rw [e7]
      refine t5_undo h4.r (fun k2 b1 b2 b3 => ⟨fun z => absurd z (by decide), fun _ => ⟨fun _ => ⟨v148 (i := 13) (by decide), v148 (i := 13) (by decide), fun k3 e3 => ⟨rfl, ?_⟩⟩, fun z => absurd rfl z⟩⟩)
      have e13 : k2 0 13 = nI ang := by rw [b2 0 (by decide)]; exact h3.1.2.1
      have e4 : nI ang + (-1 : Int32) + 12 = nI (ang + 11) := by rw [Int32.add_assoc, show (-1 : Int32) + 12 = nI 11 by decide, nI_add]
      rw [c13, e13, e4, rem12 (by omega)] at e3
      have e0 : k3 0 = upd (k 0) 13 (nI ((ang + 11) % 12)) := by rw [e3, pu_up, b2 0 (by decide)]
      refine mkJ _ row k6 g k3 (hwa _ (Nat.mod_lt _ (by decide))) (by rw [e6]; exact h2.turn) (by rw [e0]; exact h3.turn (Nat.mod_lt _ (by decide))) hg ?_ u (fun a h0 h32 => by rw [e3, pu_upn _ _ _ h0, b2 a h32]) (fun i hi => by rw [e3, pu_upn _ _ _ (by decide), b3 i hi])
      rw [e3, pu_upn _ _ _ (by decide), pu_upn _ _ _ (by decide)]
      exact b1
    · refine t4_undo h4.c (by decide) (fun g hg => ⟨fun z => absurd z (by decide), fun _ => ⟨fun _ => t_carry0 h2.2.2 ha (fun k6 e6 m7 e7 => ?_), fun z => absurd rfl z⟩⟩)
      rw [e7]
      refine t5_undo h4.r (fun k2 b1 b2 b3 => ⟨fun z => absurd z (by decide), fun _ => ⟨fun z => absurd z (by decide), fun _ => ⟨v148 (i := 13) (by decide), v148 (i := 13) (by decide), fun k3 e3 => ⟨rfl, ?_⟩⟩⟩⟩)
      have e13 : k2 0 13 = nI ang := by rw [b2 0 (by decide)]; exact h3.1.2.1
      have e4 : nI ang + (1 : Int32) + 12 = nI (ang + 1 + 12) := by rw [nI_1, show (12 : Int32) = nI 12 from rfl, nI_add]
      rw [c13, e13, e4, rem12 (by omega), Nat.add_mod_right] at e3
      have e0 : k3 0 = upd (k 0) 13 (nI ((ang + 1) % 12)) := by rw [e3, pu_up, b2 0 (by decide)]
      refine mkJ _ row k6 g k3 (hwa _ (Nat.mod_lt _ (by decide))) (by rw [e6]; exact h2.turn) (by rw [e0]; exact h3.turn (Nat.mod_lt _ (by decide))) hg ?_ u (fun a h0 h32 => by rw [e3, pu_upn _ _ _ h0, b2 a h32]) (fun i hi => by rw [e3, pu_upn _ _ _ (by decide), b3 i hi])
      rw [e3, pu_upn _ _ _ (by decide), pu_upn _ _ _ (by decide)]
      exact b1
    · obtain ⟨v1, v2, v3, v4, v5⟩ := rv_kd (ang := ang) hk
      obtain ⟨hne, hs, ht⟩ := src_ne v1 ha
      have cap := wf_cap hw hs ht hne
      have hkb : 10 ≤ kd ∧ kd ≤ 40 := by rcases hk with rfl | rfl | rfl | rfl <;> decide
      have hrev : ∀ K : Int32 → Prop, K (nI (rv kd + t)) → wX4_reverseOf (nI (kd + t)) K := by
        intro K hK
        refine ⟨fun z => absurd z (nI_ne0 (by omega) (by omega)), fun _ => ⟨fun z => ?_, fun _ => ⟨fun z => ?_, fun z => ?_⟩⟩⟩
        · have := (nI_eq (by omega) (b := 1) (by decide)).mp z
          omega
        · have z2 : 30 ≤ kd + t := (nI_leI (a := 30) (by decide) (by omega)).mp z
          have z3 : ¬ kd < 30 := by rcases hk with rfl | rfl | rfl | rfl <;> omega
          rw [show (20 : Int32) = nI 20 from rfl, pk_sub (by omega)]
          unfold rv at hK
          rw [if_neg z3] at hK
          rw [show kd + t - 20 = kd - 20 + t by omega]
          exact hK
        · have z2 : ¬ 30 ≤ kd + t := fun q => z (nI_le (a := 30) q (by omega))
          rw [show (20 : Int32) = nI 20 from rfl, nI_add]
          unfold rv at hK
          rw [if_pos (by omega)] at hK
          rw [show kd + t + 20 = kd + 20 + t by omega]
          exact hK
      refine t4_undo h4.c (by omega) (fun g hg => hrev _ (t_carryK v1 t1 t8 h2.2.2 ha h2.2.1 u1 (by omega) (fun k6 hB6 hs6 m7 e7 => ?_)))
      rw [e7]
      have hst6 : stC len siz ded n ang (mvA (rv kd) (posOf (rv kd) ang) row t) k6 := ⟨h2.1.same hs6, hB6, by rw [hs6 8 (by decide) (by decide) (by decide)]; exact h2.2.2⟩
      have hdv : nI (kd + t) / (10 : Int32) = nI ((kd + t) / 10) := pk_div (by omega) (by decide) (by decide)
      have hdv2 : (kd + t) / 10 = kd / 10 := by rcases hk with rfl | rfl | rfl | rfl <;> omega
      have hrm : am_rem (nI (kd + t)) (10 : Int32) = nI t := by
        rw [rem10 (by omega)]
        congr 1
        rcases hk with rfl | rfl | rfl | rfl <;> omega
      refine t5_undo h4.r (fun k2 b1 b2 b3 => ⟨fun _ => ?_, fun z => absurd (nI_le (a := 2) (by omega) (by omega)) z⟩)
      have e0 : k2 0 = k 0 := b2 0 (by decide)
      have fin : ∀ k3, aB (mvA (rv kd) (posOf (rv kd) ang) row t) (k3 0) → m_keep k2 k3 → JP P hp s0 s1 (m.1, k6, g, m.2.2.2) k3 := by
        intro k3 hB3 hk3
        refine mkJ ang _ k6 g k3 u2 hst6 (h3.keep (fun q hq => by rw [hk3.1 q hq, e0]) hB3) hg (by rw [hk3.2 32 (by decide), hk3.2 5 (by decide)]; exact b1) u3 (fun a h0 h32 => by rw [hk3.2 a h0, b2 a h32]) (fun i hi => by rw [hk3.2 32 (by decide), b3 i hi])
      rw [hdv, hdv2, hrm]
      have hA2 : aA len siz ded n ang (k2 0) := by rw [e0]; exact h3.1
      have hB2 : aB row (k2 0) := by rw [e0]; exact h3.2
      rcases hk with rfl | rfl | rfl | rfl
      · refine ⟨fun z => absurd z (nI_ge (b := 30) (by omega) (by decide)), fun _ => ?_⟩
        exact t5_goOut (e := 0) (by decide) hA2 hB2 u1 (by have : (row (posOf 30 ang)).length ≤ 8 := (hB2 _ (by have := posOf_lt (kd := 30) ha; omega)).2.1; have c2 : (row 12).length + (row (posOf 30 ang)).length ≤ 8 := cap; have u1' : t ≤ (row 12).length := u1; show (row (posOf 30 ang)).length + t ≤ 8; omega) (fun k3 q1 q2 => ⟨rfl, fin k3 q1 q2⟩)
      · refine ⟨fun z => absurd z (nI_ge (b := 30) (by omega) (by decide)), fun _ => ?_⟩
        exact t5_goOut (e := 1) (by decide) hA2 hB2 u1 (by have c2 : (row 12).length + (row (posOf 40 ang)).length ≤ 8 := cap; have u1' : t ≤ (row 12).length := u1; show (row (posOf 40 ang)).length + t ≤ 8; omega) (fun k3 q1 q2 => ⟨rfl, fin k3 q1 q2⟩)
      · refine ⟨fun _ => ?_, fun z => absurd (nI_le (a := 30) (by omega) (by omega)) z⟩
        exact t5_goIn (e := 0) (by decide) hA2 hB2 u1 (by have c2 : (row (posOf 10 ang)).length + (row 12).length ≤ 8 := cap; have u1' : t ≤ (row (posOf 10 ang)).length := u1; omega) (fun k3 q1 q2 => ⟨rfl, fin k3 q1 q2⟩)
      · refine ⟨fun _ => ?_, fun z => absurd (nI_le (a := 30) (by omega) (by omega)) z⟩
        exact t5_goIn (e := 1) (by decide) hA2 hB2 u1 (by have c2 : (row (posOf 20 ang)).length + (row 12).length ≤ 8 := cap; have u1' : t ≤ (row (posOf 20 ang)).length := u1; omega) (fun k3 q1 q2 => ⟨rfl, fin k3 q1 q2⟩)
end UD
