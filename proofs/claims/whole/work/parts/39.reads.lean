/-! the questions -/
section MP
variable {K : Int32 → Prop} {X0 : Int32 → Int32 → Prop} {m : Mu} {row : Nat → List Nat} {q l : Nat}
theorem t5_pl_in (hB : aB row (m 0)) (hq : q < 13) (hl : l < 2 ^ 31) (hb : ∀ x ∈ row q, x < 8) (h1 : l ∈ row q → K (nI q)) (h0 : l ∉ row q → X0 (nI l) (nI (q + 1))) : ∀ d j, j + d = (row q).length → (∀ i, i < j → (row q)[i]? ≠ some l) → lpX5_placeOf_10 m K X0 (d + 1) (nI l) (nI q) (nI j) := by
  obtain ⟨b1, b3, b4⟩ := hB q hq
  intro d
  induction d with
  | zero =>
    intro j hj hno
    have e : j = (row q).length := by omega
    subst e
    unfold lpX5_placeOf_10
    rw [l31, nI_clamp (by omega), b1]
    refine ⟨v148 (by omega), fun _ x3 e3 => ?_, fun z => absurd (Int32.le_refl _) z⟩
    rw [e3, nI_1]
    refine h0 (fun hm => ?_)
    obtain ⟨i, hi⟩ := List.getElem?_of_mem hm
    exact hno i (List.getElem?_eq_some_iff.mp hi).1 hi
  | succ d ih =>
    intro j hj hno
    have hjl : j < (row q).length := by omega
    have hx := List.getElem?_eq_getElem hjl
    generalize (row q)[j] = x at hx
    have hxm := List.mem_of_getElem? hx
    have hx8 := hb x hxm
    unfold lpX5_placeOf_10
    rw [l31, nI_clamp (by omega), b1]
    refine ⟨v148 (by omega), fun z => absurd z (nI_ge hjl (by omega)), fun _ => t5_cell ⟨v148 (by omega), ?_⟩⟩
    rw [nI_clamp (by omega), b4 j x hx]
    refine ⟨fun z => ?_, fun z x6 e6 => ?_⟩
    · have : x = l := (nI_eq (by omega) hl).mp z
      subst this
      exact h1 hxm
    · rw [e6, nI_1]
      refine ih (j + 1) (by omega) (fun i hi hi2 => ?_)
      by_cases hij : i = j
      · subst hij
        rw [hx] at hi2
        cases hi2
        exact z rfl
      · exact hno i (by omega) hi2
theorem t5_pl_out {p : Nat} (hB : aB row (m 0)) (hp : p < 13) (hl : l < 2 ^ 31) (hb : ∀ q, q < 13 → ∀ x ∈ row q, x < 8) (hm : l ∈ row p) (hno : ∀ q, q < p → l ∉ row q) (h : K (nI p)) : ∀ d j, j + d = p → lpX5_placeOf_2 m K (d + 1) (nI l) (nI j) := by
  intro d
  induction d with
  | zero =>
    intro j hj
    have e : j = p := by omega
    subst e
    unfold lpX5_placeOf_2
    exact ⟨fun z => absurd z (nI_ge (b := 13) hp (by decide)), fun _ => ⟨(row j).length + 1, t5_pl_in hB hp hl (hb j hp) (fun _ => h) (fun z => absurd hm z) (row j).length 0 (by omega) (fun i hi => absurd hi (by omega))⟩⟩
  | succ d ih =>
    intro j hj
    unfold lpX5_placeOf_2
    exact ⟨fun z => absurd z (nI_ge (b := 13) (by omega) (by decide)), fun _ => ⟨(row j).length + 1, t5_pl_in hB (by omega) hl (hb j (by omega)) (fun z => absurd z (hno j (by omega))) (fun _ => ih (j + 1) (by omega)) (row j).length 0 (by omega) (fun i hi => absurd hi (by omega))⟩⟩
theorem t5_placeOf {p : Nat} (hB : aB row (m 0)) (hp : p < 13) (hl : l < 2 ^ 31) (hb : ∀ q, q < 13 → ∀ x ∈ row q, x < 8) (hm : l ∈ row p) (hno : ∀ q, q < p → l ∉ row q) (h : K (nI p)) : wX5_placeOf (nI l) m K :=
  ⟨p + 1, t5_pl_out hB hp hl hb hm hno h p 0 (by omega)⟩
end MP
section PE
variable {K : Int32 → Prop} {x : Int32} {hp s0 s1 : Bool} {m : HM} {len siz : Nat → Nat} {ded : Nat → Bool} {n p : Nat}
theorem place_or (x : Int32) : (∃ p : Nat, p < 13 ∧ x = nI p) ∨ ((¬ x = 12 ∧ (x < 0 ∨ (12 : Int32) ≤ x)) ∧ (x < 0 ∨ (12 : Int32) < x)) := by
  rcases neg_or x with z | ⟨j, hj, rfl⟩
  · refine Or.inr ⟨⟨fun q => ?_, Or.inl z⟩, Or.inl z⟩
    subst q; exact absurd z (by decide)
  · by_cases h : j < 13
    · exact Or.inl ⟨j, h, rfl⟩
    · exact Or.inr ⟨⟨fun q => by have := (nI_eq hj (b := 12) (by decide)).mp q; omega, Or.inr (nI_le (a := 12) (by omega) hj)⟩, Or.inr (nI_lt (a := 12) (by omega) hj)⟩
theorem m_plc (hp : p < 13) (h : K 1) : wX5_in (nI p) 0 12 K := in_yes (nI_pos (by omega)) (nI_nlt (b := p) (a := 12) (by omega) (by decide)) h
theorem m_plcn (hx : x < 0 ∨ (12 : Int32) < x) (h : K 0) : wX5_in x 0 12 K := by
  rcases hx with z | z
  · exact in_lo z h
  · exact in_hi z h
theorem c_plE (hA : yA len siz ded n m.2.1) (hpl : p < 13) (h12 : 0 < len 12) (h1 : 0 < len p → K 0) (h0 : len p = 0 → K (-2)) : wX4_placeError (nI p) hp s0 s1 m K := by
  refine ⟨fun q => ?_, fun q => ?_⟩
  · have : p = 12 := (nI_eq (by omega) (b := 12) (by decide)).mp q
    subst this
    exact h1 h12
  · have hp12 : p < 12 := by
      by_cases h : p = 12
      · subst h; exact absurd rfl q
      · omega
    refine c_pos hp12 ⟨fun q => absurd q (by decide), fun _ => t_lengthAt hpl ?_⟩
    obtain ⟨e, h60⟩ := hA.1 p hpl
    rw [e]
    refine ⟨fun z => h0 ?_, fun z => h1 ?_⟩
    · exact (nI_eq (by omega) (b := 0) (by decide)).mp z
    · rcases Nat.eq_zero_or_pos (len p) with w | w
      · rw [w] at z; exact absurd rfl z
      · exact w
theorem c_plEn (hx : ¬ x = 12 ∧ (x < 0 ∨ (12 : Int32) ≤ x)) (h : K (-1)) : wX4_placeError x hp s0 s1 m K := ⟨fun q => absurd q hx.1, fun _ => c_posn hx.2 ⟨fun _ => h, fun q => absurd rfl q⟩⟩
end PE
section JQ
variable {P : Bool → (Nat → Nat) → (Nat → Nat) → (Nat → Bool) → Nat → Mu → Mu → Prop} {hp s0 s1 : Bool} {m : HM} {k : Mu}
theorem o_7 (a1 : Int32) (hJ : JP P hp s0 s1 m k) : ok_7 (JP P) a1 hp s0 s1 m k := by
  obtain ⟨len, siz, ded, n, ang, row, L, hw, ⟨hA, hB, h4⟩, ⟨rA, rB⟩, h6⟩ := id hJ
  obtain ⟨w1, w2, w3, w4, w5, w6, w7, w8⟩ := hw
  unfold ok_7 wX4_freeLength
  rcases place_or a1 with ⟨p, hpl, rfl⟩ | ⟨x1, x2⟩
  · refine c_plE hA hpl w8 (fun hl => ⟨fun _ => t_freeAt hpl (m_plc hpl ⟨fun q => absurd q (by decide), fun _ => t5_isTrack rA hpl (fun _ => ⟨fun q => absurd q (by decide), fun _ => ?_⟩) (fun z => absurd hl (by omega))⟩), fun q => absurd rfl q⟩) (fun hl => ⟨fun q => absurd q (by decide), fun _ => m_plc hpl ⟨fun q => absurd q (by decide), fun _ => t5_isTrack rA hpl (fun z => absurd z (by omega)) (fun _ => ⟨fun _ => ⟨rfl, hJ⟩, fun q => absurd rfl q⟩)⟩⟩)
    rw [l0]
    refine ⟨v148 (by omega), t5_used rA rB hpl (w1 p hpl) ⟨?_, hJ⟩⟩
    rw [nI_clamp (by omega), (hA.1 p hpl).1, (rA.1 p hpl).1, (hB p hpl).2.1]
  · exact c_plEn x1 ⟨fun q => absurd q (by decide), fun _ => m_plcn x2 ⟨fun _ => ⟨rfl, hJ⟩, fun q => absurd rfl q⟩⟩
theorem o_8 (a1 a2 : Int32) (hJ : JP P hp s0 s1 m k) : ok_8 (JP P) a1 a2 hp s0 s1 m k := by
  obtain ⟨len, siz, ded, n, ang, row, L, hw, ⟨hA, hB, h4⟩, ⟨rA, rB⟩, h6⟩ := id hJ
  obtain ⟨w1, w2, w3, w4, w5, w6, w7, w8⟩ := hw
  unfold ok_8 wX4_row
  rcases place_or a1 with ⟨p, hpl, rfl⟩ | ⟨x1, x2⟩
  · obtain ⟨b1, b2, b3, b4⟩ := hB p hpl
    obtain ⟨r1, r3, r4⟩ := rB p hpl
    refine c_plE hA hpl w8 (fun hl => ⟨fun _ => ?_, fun q => absurd rfl q⟩) (fun hl => ⟨fun q => absurd q (by decide), fun _ => m_plc hpl ⟨fun q => absurd q (by decide), fun _ => t5_isTrack rA hpl (fun z => absurd z (by omega)) (fun _ => ⟨fun _ => ⟨rfl, hJ⟩, fun q => absurd rfl q⟩)⟩⟩)
    have key : ∀ x : Int32, ((a2 = (-1 : Int32) → x = nI (row p).length) ∧ (¬ a2 = (-1 : Int32) → wX5_in a2 (0 : Int32) (nI (row p).length - (1 : Int32)) (fun r7 : Int32 => ((r7 = 0 → x = -11) ∧ (¬ r7 = 0 → wX5_cell (nI p) a2 k (fun r9 : Int32 => (vp_in r9 148 ∧ x = (k 0 (r9).toNatClampNeg)))))))) → wX5_row (nI p) a2 k (fun y => x = y ∧ JP P hp s0 s1 m k) := by
      intro x ⟨k1, k2⟩
      refine m_plc hpl ⟨fun q => absurd q (by decide), fun _ => t5_isTrack rA hpl (fun _ => ⟨fun q => absurd q (by decide), fun _ => ?_⟩) (fun z => absurd hl (by omega))⟩
      rw [l31]
      refine ⟨v148 (by omega), fun x5 e5 => ?_⟩
      rw [nI_clamp (by omega), r1] at e5
      subst e5
      refine ⟨fun q => ⟨k1 q, hJ⟩, fun q => ?_⟩
      have k3 := k2 q
      unfold wX5_in at k3 ⊢
      refine ⟨fun z => ?_, fun z => ⟨fun z2 => ?_, fun z2 => ?_⟩⟩
      · exact ⟨fun q => ⟨(k3.1 z).1 rfl, hJ⟩, fun q => absurd rfl q⟩
      · exact ⟨fun q => ⟨((k3.2 z).1 z2).1 rfl, hJ⟩, fun q => absurd rfl q⟩
      · have k4 := ((k3.2 z).2 z2).2 (by decide)
        exact ⟨fun q => absurd q (by decide), fun _ => ⟨k4.1, k4.2, hJ⟩⟩
    refine ⟨fun q => ?_, fun q => ?_⟩
    · refine t_countAt hpl (key _ ⟨fun _ => b1, fun z => absurd q z⟩)
    · rcases neg_or a2 with z | ⟨j, hj, rfl⟩
      · exact t_locAt_neg hpl z (key _ ⟨fun z => absurd z q, fun _ => in_lo z ⟨fun _ => rfl, fun q => absurd rfl q⟩⟩)
      · by_cases hjl : j < (row p).length
        · have hx := List.getElem?_eq_getElem hjl
          generalize (row p)[j] = x at hx
          refine t_locAt hpl b1 b3 hjl (key _ ⟨fun z => absurd z q, fun _ => ?_⟩)
          rw [nI_m1 (by omega)]
          refine in_yes (nI_pos hj) (nI_nlt (by omega) (by omega)) ⟨fun q => absurd q (by decide), fun _ => t5_cell ⟨v148 (by omega), ?_⟩⟩
          rw [nI_clamp (by omega), (b4 j x hx).1, r4 j x hx]
        · refine t_locAt_out hpl b1 b3 (by omega) hj (key _ ⟨fun z => absurd z q, fun _ => in_hi ?_ ⟨fun _ => rfl, fun q => absurd rfl q⟩⟩)
          by_cases h0 : (row p).length = 0
          · rw [h0]
            have : (nI 0 - 1 : Int32) < 0 := by decide
            exact Int32.lt_of_lt_of_le this (nI_pos' hj)
          · rw [nI_m1 (by omega)]
            exact nI_lt (by omega) hj
  · exact c_plEn x1 ⟨fun q => absurd q (by decide), fun _ => m_plcn x2 ⟨fun _ => ⟨rfl, hJ⟩, fun q => absurd rfl q⟩⟩
theorem o_9 (a1 : Int32) (hJ : JP P hp s0 s1 m k) : ok_9 (JP P) a1 hp s0 s1 m k := by
  obtain ⟨len, siz, ded, n, ang, row, L, hw, ⟨hA, hB, h4⟩, ⟨rA, rB⟩, h6⟩ := id hJ
  obtain ⟨w1, w2, w3, w4, w5, w6, w7, w8⟩ := hw
  unfold ok_9 wX4_place
  have hn := hA.2.2.1
  have rn := rA.2.2.1
  rcases loc_or n w7 a1 with ⟨l, hl, rfl⟩ | hx
  · obtain ⟨p, hp, hm⟩ := w4 l hl
    have hno : ∀ q, q < p → l ∉ row q := fun q hq hm2 => absurd (w3 q p l (by omega) hp hm2 hm) (by omega)
    refine t_isLoc hn w7 hl ⟨fun q => absurd q (by decide), fun _ => t_placeOf hB hp (by omega) hm hno (m_loc rn w7 hl ⟨fun q => absurd q (by decide), fun _ => t5_placeOf rB hp (by omega) (fun q hq x hx => by have := w1 q hq x hx; omega) hm hno ⟨rfl, hJ⟩⟩)⟩
  · exact t_isLoc_no hn hx ⟨fun _ => m_locn rn w7 hx ⟨fun _ => ⟨rfl, hJ⟩, fun q => absurd rfl q⟩, fun q => absurd rfl q⟩
end JQ
