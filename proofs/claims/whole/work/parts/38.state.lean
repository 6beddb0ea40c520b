/-! the state of the house, in both -/
def wf (len siz : Nat → Nat) (n ang : Nat) (row : Nat → List Nat) : Prop := (∀ p, p < 13 → ∀ l ∈ row p, l < n) ∧ (∀ p, p < 13 → (row p).Nodup) ∧ (∀ p q l, p < 13 → q < 13 → l ∈ row p → l ∈ row q → p = q) ∧ (∀ l, l < n → ∃ p, p < 13 ∧ l ∈ row p) ∧ (∀ p, p < 13 → sm siz (row p) ≤ len p) ∧ ang < 12 ∧ n ≤ 8 ∧ 0 < len 12
def stC (len siz : Nat → Nat) (ded : Nat → Bool) (n ang : Nat) (row : Nat → List Nat) (m : Mu) : Prop := yA len siz ded n m ∧ yB siz row m ∧ m 8 7 = nI ang
def stR (len siz : Nat → Nat) (ded : Nat → Bool) (n ang : Nat) (row : Nat → List Nat) (f : Nat → Int32) : Prop := aA len siz ded n ang f ∧ aB row f
/-- the log, oldest first -/
def lgC (L : List Nat) (m k : Mu) : Prop := L.length ≤ 40 ∧ m 2 1 = nI L.length ∧ k 32 4 = nI L.length ∧ ∀ (i c : Nat), L[i]? = some c → m 0 i = nI c ∧ k 5 i = nI c
/-- the kind that takes back -/
def rv (kd : Nat) : Nat := if kd < 30 then kd + 20 else kd - 20
/-- what is logged can be taken back, newest first -/
def und (len siz : Nat → Nat) (n : Nat) : List Nat → Nat → (Nat → List Nat) → Prop
  | [], _, _ => True
  | c :: cs, ang, row => (c = 0 ∧ und len siz n cs ((ang + 11) % 12) row) ∨ (c = 1 ∧ und len siz n cs ((ang + 1) % 12) row) ∨ ∃ kd k, isKd kd ∧ 1 ≤ k ∧ k ≤ 8 ∧ c = kd + k ∧ k ≤ (row (srcOf (rv kd) ang)).length ∧ wf len siz n ang (mvA (rv kd) (posOf (rv kd) ang) row k) ∧ und len siz n cs ang (mvA (rv kd) (posOf (rv kd) ang) row k)
def slt (b : Bool) (m k : Mu) (s : Nat) : Prop := (k 2 s = 0 ↔ b = false) ∧ (b = true → ∃ len siz ded n ang row, wf len siz n ang row ∧ stC len siz ded n ang row m ∧ stR len siz ded n ang row (fun i => k 1 (148 * s + i)))
def JS (P : Bool → (Nat → Nat) → (Nat → Nat) → (Nat → Bool) → Nat → Mu → Mu → Prop) (len siz : Nat → Nat) (ded : Nat → Bool) (n ang : Nat) (row : Nat → List Nat) (L : List Nat) (hp s0 s1 : Bool) (m : HM) (k : Mu) : Prop :=
  wf len siz n ang row ∧ stC len siz ded n ang row m.2.1 ∧ stR len siz ded n ang row (k 0) ∧ lgC L m.2.2.1 k ∧ und len siz n L.reverse ang row ∧ m.1 = k 32 3 ∧ slt s0 m.2.2.2.2.1 k 0 ∧ slt s1 m.2.2.2.2.2 k 1 ∧ P hp len siz ded n m.2.2.2.1 k
def JP (P : Bool → (Nat → Nat) → (Nat → Nat) → (Nat → Bool) → Nat → Mu → Mu → Prop) (hp s0 s1 : Bool) (m : HM) (k : Mu) : Prop := ∃ len siz ded n ang row L, JS P len siz ded n ang row L hp s0 s1 m k
theorem c12 : (12 : Int32).toNatClampNeg = 12 := by decide
theorem c13 : (13 : Int32).toNatClampNeg = 13 := by decide
theorem c14 : (14 : Int32).toNatClampNeg = 14 := by decide
theorem v148 {i : Nat} (h : i < 148) : vp_in (nI i) 148 := vp_in_nI h (by decide)
theorem nar0 : narrow .boolean (.int 0) = .int 0 := by decide
theorem nar1 : narrow .boolean (.int 1) = .int 1 := by decide
/-- a number is negative or counts -/
theorem neg_or (x : Int32) : x < 0 ∨ ∃ j : Nat, j < 2 ^ 31 ∧ x = nI j := by
  by_cases h : x < 0
  · exact Or.inl h
  · exact Or.inr (nI_of h)
section RD
variable {K : Int32 → Prop} {x : Int32} {m : Mu} {p n : Nat}
theorem in_yes {a b : Int32} (h1 : ¬ x < a) (h2 : ¬ b < x) (h : K 1) : wX5_in x a b K := ⟨fun q => absurd q h1, fun _ => ⟨fun q => absurd q h2, fun _ => h⟩⟩
theorem in_lo {a b : Int32} (h1 : x < a) (h : K 0) : wX5_in x a b K := ⟨fun _ => h, fun q => absurd h1 q⟩
theorem in_hi {a b : Int32} (h2 : b < x) (h : K 0) : wX5_in x a b K := ⟨fun _ => h, fun _ => ⟨fun _ => h, fun q => absurd h2 q⟩⟩
/-- positions -/
theorem c_pos (hp : p < 12) (h : K 1) : wX4_isPosition (nI p) K := ix_lo hp (by decide) h
theorem c_posn (hx : x < 0 ∨ (12 : Int32) ≤ x) (h : K 0) : wX4_isPosition x K := ⟨fun _ => h, fun q => ⟨fun _ => h, fun q2 => by rcases hx with z | z; exact absurd z q; exact absurd z q2⟩⟩
theorem m_pos (hp : p < 12) (h : K 1) : wX5_isPosition (nI p) K := in_yes (nI_pos (by omega)) (nI_nlt (b := p) (a := 11) (by omega) (by decide)) ⟨nar1, h⟩
theorem m_posn (hx : x < 0 ∨ (11 : Int32) < x) (h : K 0) : wX5_isPosition x K := by
  rcases hx with z | z
  · exact in_lo z ⟨nar0, h⟩
  · exact in_hi z ⟨nar0, h⟩
theorem pos_or (x : Int32) : (∃ p : Nat, p < 12 ∧ x = nI p) ∨ ((x < 0 ∨ (12 : Int32) ≤ x) ∧ (x < 0 ∨ (11 : Int32) < x)) := by
  rcases neg_or x with z | ⟨j, hj, rfl⟩
  · exact Or.inr ⟨Or.inl z, Or.inl z⟩
  · by_cases h : j < 12
    · exact Or.inl ⟨j, h, rfl⟩
    · exact Or.inr ⟨Or.inr (nI_le (a := 12) (by omega) hj), Or.inr (nI_lt (a := 11) (by omega) hj)⟩
/-- ends -/
theorem c_end {e : Nat} (he : e < 2) (h : K 1) : wX4_isEnd (nI e) K := by
  have : e = 0 ∨ e = 1 := by omega
  rcases this with rfl | rfl
  · exact ⟨fun _ => h, fun q => absurd rfl q⟩
  · exact ⟨fun _ => h, fun _ => ⟨fun _ => h, fun q => absurd rfl q⟩⟩
theorem c_endn (h1 : ¬ x = 0) (h2 : ¬ x = 1) (h : K 0) : wX4_isEnd x K := ⟨fun q => absurd q h1, fun _ => ⟨fun q => absurd q h2, fun _ => h⟩⟩
theorem m_end {e : Nat} (he : e < 2) (h : K 1) : wX5_isEnd (nI e) K := in_yes (nI_pos (by omega)) (nI_nlt (b := e) (a := 1) (by omega) (by decide)) ⟨nar1, h⟩
theorem m_endn (hx : x < 0 ∨ (1 : Int32) < x) (h : K 0) : wX5_isEnd x K := by
  rcases hx with z | z
  · exact in_lo z ⟨nar0, h⟩
  · exact in_hi z ⟨nar0, h⟩
theorem end_or (x : Int32) : (∃ e : Nat, e < 2 ∧ x = nI e) ∨ (¬ x = 0 ∧ ¬ x = 1 ∧ (x < 0 ∨ (1 : Int32) < x)) := by
  rcases neg_or x with z | ⟨j, hj, rfl⟩
  · refine Or.inr ⟨fun q => ?_, fun q => ?_, Or.inl z⟩
    · subst q; exact absurd z (by decide)
    · subst q; exact absurd z (by decide)
  · by_cases h : j < 2
    · exact Or.inl ⟨j, h, rfl⟩
    · exact Or.inr ⟨nI_ne0 (by omega) hj, fun q => by have := (nI_eq hj (b := 1) (by decide)).mp q; omega, Or.inr (nI_lt (a := 1) (by omega) hj)⟩
/-- locomotives -/
theorem m_loc {l : Nat} (hn : m 0 14 = nI n) (hn8 : n ≤ 8) (hl : l < n) (h : K 1) : wX5_isLocomotive (nI l) m K := by
  refine ⟨v148 (i := 14) (by decide), ?_⟩
  rw [c14, hn, nI_m1 (by omega)]
  exact in_yes (nI_pos (by omega)) (nI_nlt (by omega) (by omega)) ⟨nar1, h⟩
theorem m_locn (hn : m 0 14 = nI n) (hn8 : n ≤ 8) (hx : x < 0 ∨ nI n ≤ x) (h : K 0) : wX5_isLocomotive x m K := by
  refine ⟨v148 (i := 14) (by decide), ?_⟩
  rw [c14, hn]
  rcases neg_or x with z | ⟨j, hj, rfl⟩
  · exact in_lo z ⟨nar0, h⟩
  · have hj2 : n ≤ j := by
      rcases hx with z | z
      · exact absurd z (nI_pos hj)
      · exact (nI_leI (by omega) hj).mp z
    refine in_hi ?_ ⟨nar0, h⟩
    by_cases h0 : n = 0
    · subst h0
      have : (nI 0 - 1 : Int32) < 0 := by decide
      exact Int32.lt_of_lt_of_le this (nI_pos' hj)
    · rw [nI_m1 (by omega)]
      exact nI_lt (by omega) hj
theorem loc_or (n : Nat) (hn : n ≤ 8) (x : Int32) : (∃ l : Nat, l < n ∧ x = nI l) ∨ (x < 0 ∨ nI n ≤ x) := by
  rcases neg_or x with z | ⟨j, hj, rfl⟩
  · exact Or.inr (Or.inl z)
  · by_cases h : j < n
    · exact Or.inl ⟨j, h, rfl⟩
    · exact Or.inr (Or.inr (nI_le (by omega) hj))
end RD
section JR
variable {P : Bool → (Nat → Nat) → (Nat → Nat) → (Nat → Bool) → Nat → Mu → Mu → Prop} {hp s0 s1 : Bool} {m : HM} {k : Mu}
theorem o_5 (hJ : JP P hp s0 s1 m k) : ok_5 (JP P) hp s0 s1 m k := by
  obtain ⟨len, siz, ded, n, ang, row, L, h1, ⟨⟨a1, a2, a3, a4⟩, h3, h4⟩, ⟨⟨b1, b2, b3, b4⟩, h5⟩, h6⟩ := id hJ
  refine ⟨v148 (i := 14) (by decide), ?_, hJ⟩
  rw [c14, a3, b3]
theorem o_6 (a1 : Int32) (hJ : JP P hp s0 s1 m k) : ok_6 (JP P) a1 hp s0 s1 m k := by
  obtain ⟨len, siz, ded, n, ang, row, L, h1, ⟨⟨c1, c2⟩, h3, h4⟩, ⟨⟨b1, b2⟩, h5⟩, h6⟩ := id hJ
  unfold ok_6 wX4_trackLength
  rcases pos_or a1 with ⟨p, hp, rfl⟩ | ⟨x1, x2⟩
  · refine c_pos hp ⟨fun q => absurd q (by decide), fun _ => t_lengthAt (by omega) (m_pos hp ⟨fun q => absurd q (by decide), fun _ => ?_⟩)⟩
    rw [l0]
    refine ⟨v148 (by omega), ?_, hJ⟩
    rw [nI_clamp (by omega), (c1 p (by omega)).1, (b1 p (by omega)).1]
  · exact c_posn x1 ⟨fun _ => m_posn x2 ⟨fun _ => ⟨rfl, hJ⟩, fun q => absurd rfl q⟩, fun q => absurd rfl q⟩
theorem o_10 (a1 : Int32) (hJ : JP P hp s0 s1 m k) : ok_10 (JP P) a1 hp s0 s1 m k := by
  obtain ⟨len, siz, ded, n, ang, row, L, h1, ⟨⟨c1, c2⟩, h3, h4⟩, ⟨hA, h5⟩, h6⟩ := id hJ
  have ha : ang < 12 := h1.2.2.2.2.2.1
  unfold ok_10 wX4_pointsTo
  rcases end_or a1 with ⟨e, he, rfl⟩ | ⟨x1, x2, x3⟩
  · refine c_end he ⟨fun q => absurd q (by decide), fun _ => ?_⟩
    have key : wX5_pointsTo (nI e) k (fun y => nI ((ang + 6 * e) % 12) = y ∧ JP P hp s0 s1 m k) := m_end he ⟨fun q => absurd q (by decide), fun _ => t5_pointed hA he ⟨rfl, hJ⟩⟩
    have : e = 0 ∨ e = 1 := by omega
    rcases this with rfl | rfl
    · refine t_posA ?_
      rw [h4]
      rw [show (ang + 6 * 0) % 12 = ang by omega] at key
      exact key
    · exact t_posB h4 ha key
  · exact c_endn x1 x2 ⟨fun _ => m_endn x3 ⟨fun _ => ⟨rfl, hJ⟩, fun q => absurd rfl q⟩, fun q => absurd rfl q⟩
theorem o_14 (hJ : JP P hp s0 s1 m k) : ok_14 (JP P) hp s0 s1 m k := by
  obtain ⟨len, siz, ded, n, ang, row, L, h1, h2, h3, h4, h5, h6, h7⟩ := id hJ
  exact ⟨h6, hJ⟩
theorem o_16 (a1 : Int32) (hJ : JP P hp s0 s1 m k) : ok_16 (JP P) a1 hp s0 s1 m k := by
  obtain ⟨len, siz, ded, n, ang, row, L, h1, h2, h3, ⟨g1, g2, g3, g4⟩, h5⟩ := id hJ
  refine ⟨fun q => ⟨fun _ => ⟨by rw [g2, g3], hJ⟩, fun q2 => absurd q q2⟩, fun q => ?_⟩
  have key : ∀ x : Int32, (wX5_in a1 (0 : Int32) ((k 32 4) - (1 : Int32)) (fun r2 : Int32 => ((r2 = 0 → x = -11 ∧ JP P hp s0 s1 m k) ∧ (¬ r2 = 0 → (vp_in (((k 32 4) - (1 : Int32)) - a1) 40 ∧ x = (k 5 ((((k 32 4) - (1 : Int32)) - a1)).toNatClampNeg) ∧ JP P hp s0 s1 m k))))) → wX5_log a1 k (fun y => x = y ∧ JP P hp s0 s1 m k) := fun x h => ⟨fun q2 => absurd q2 q, fun _ => h⟩
  show wX0_latest a1 m.2.2.1 (fun r2 : Int32 => _)
  unfold wX0_latest
  rw [g2]
  rw [g3] at key
  rcases neg_or a1 with z | ⟨j, hj, rfl⟩
  · exact ⟨fun _ => key _ (in_lo z ⟨fun _ => ⟨rfl, hJ⟩, fun q => absurd rfl q⟩), fun q => absurd z q⟩
  · refine ⟨fun z => absurd z (nI_pos hj), fun _ => ⟨fun z => ?_, fun z => ⟨fun z2 => absurd z2 (nI_nlt (a := 40) g1 (by decide)), fun _ => ?_⟩⟩⟩
    · have z2 := (nI_leI (by omega) hj).mp z
      refine key _ (in_hi ?_ ⟨fun _ => ⟨rfl, hJ⟩, fun q => absurd rfl q⟩)
      by_cases h0 : L.length = 0
      · rw [h0]
        have : (nI 0 - 1 : Int32) < 0 := by decide
        exact Int32.lt_of_lt_of_le this (nI_pos' hj)
      · rw [nI_m1 (by omega)]
        exact nI_lt (by omega) hj
    · have hj2 : j < L.length := by
        by_cases h0 : j < L.length
        · exact h0
        · exact absurd (nI_le (by omega) hj) z
      have hx := List.getElem?_eq_getElem (show L.length - 1 - j < L.length by omega)
      obtain ⟨w1, w2⟩ := g4 _ _ hx
      rw [nI_m1 (by omega), pk_sub (by omega)] at *
      rw [nI_clamp (by omega)]
      refine ⟨vp_in_nI (by omega) (by decide), key _ (in_yes (nI_pos hj) (nI_nlt (by omega) (by omega)) ⟨fun q => absurd q (by decide), fun _ => ⟨?_, ?_, hJ⟩⟩)⟩
      · exact vp_in_nI (by omega) (by decide)
      · rw [nI_clamp (by omega), w1, w2]
end JR
