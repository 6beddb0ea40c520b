/-! movements, in both -/
section MV
variable {len siz : Nat → Nat} {ded : Nat → Bool} {n ang kd k e : Nat} {row : Nat → List Nat} {L : List Nat} {hp s0 s1 : Bool}
theorem t4_move {m : HM} {K : Int32 → HM → Prop} (hk : isKd kd) (hw : wf len siz n ang row) (hst : stC len siz ded n ang row m.2.1) (hlg : lgS L (m.2.2.1 2 1) (m.2.2.1 0)) (h1 : 1 ≤ k) (h31 : k < 2 ^ 31)
    (A : len (posOf kd ang) = 0 → K (-2) m)
    (B : 0 < len (posOf kd ang) → ¬ k ≤ (row (srcOf kd ang)).length → K (-6) m)
    (C : 0 < len (posOf kd ang) → k ≤ (row (srcOf kd ang)).length → ¬ mvErr len siz ded row kd ang k = 0 → K (mvErr len siz ded row kd ang k) m)
    (D : 0 < len (posOf kd ang) → k ≤ (row (srcOf kd ang)).length → mvErr len siz ded row kd ang k = 0 → ∀ y g, stC len siz ded n ang (mvA kd (posOf kd ang) row k) y → lgS (addL L (kd + k)) (g 2 1) (g 0) → K (nI (mvA kd (posOf kd ang) row k (tgtOf kd ang)).length) (m.1, y, g, m.2.2.2)) : wX4_moveIfPossible (nI kd) (nI k) hp s0 s1 m K := by
  obtain ⟨hA, hB, h7⟩ := hst
  have ha := hw.2.2.2.2.2.1
  obtain ⟨hne, hs, ht⟩ := src_ne hk ha
  unfold wX4_moveIfPossible
  rcases Nat.eq_zero_or_pos (len (posOf kd ang)) with z | z
  · exact t_mvErr_none hk h7 ha hA z ⟨fun q => absurd q (by decide), fun _ => A z⟩
  · by_cases hkl : k ≤ (row (srcOf kd ang)).length
    · refine t_mvErr hk h7 ha hA hB hw.1 (hw.2.2.2.2.1 _ ht) z hkl ⟨fun q => ?_, fun q => C z hkl q⟩
      have cap := wf_cap hw hs ht hne
      refine t_shift hk h7 ha hB hkl (by omega) (fun k3 hB3 hs3 m4 e4 => ?_)
      rw [e4]
      have hst3 : stC len siz ded n ang (mvA kd (posOf kd ang) row k) k3 := ⟨hA.same hs3, hB3, by rw [hs3 8 (by decide) (by decide) (by decide)]; exact h7⟩
      rw [nI_add]
      refine t0_append hlg (fun k5 h5 m6 e6 => ?_)
      rw [e6]
      refine t_target hk hst3.2.2 ha (t_countAt ht ?_)
      have := D z hkl q k3 k5 hst3 h5
      rw [← (hB3 _ ht).1] at this
      exact this
    · refine t_mvErr_few hk h7 ha hA hB z (fun q => hkl ?_) ⟨fun q => absurd q (by decide), fun _ => B z hkl⟩
      have := (hB _ hs).2.2.1
      exact (nI_leI h31 (by omega)).mp q
theorem kd_e {b : Nat} (he : e < 2) (hb : b = 10 ∨ b = 30) : isKd (b + 10 * e) := by
  have : e = 0 ∨ e = 1 := by omega
  unfold isKd
  omega
theorem code_e (e k : Nat) : ((10 : Int32) + ((10 : Int32) * nI e)) + nI k = nI (10 + 10 * e + k) := by
  rw [show (10 : Int32) = nI 10 from rfl, pk_mul, nI_add, nI_add]
theorem code_e3 (e k : Nat) : ((30 : Int32) + ((10 : Int32) * nI e)) + nI k = nI (30 + 10 * e + k) := by
  rw [show (10 : Int32) = nI 10 from rfl, show (30 : Int32) = nI 30 from rfl, pk_mul, nI_add, nI_add]
theorem stR.keep {row' : Nat → List Nat} {f g : Nat → Int32} (h : stR len siz ded n ang row f) (hg : ∀ q, q < 31 → g q = f q) (hB : aB row' g) : stR len siz ded n ang row' g := ⟨h.1.keep hg, hB⟩
theorem t5_moveIn {kk : Mu} {K : Int32 → Mu → Prop} (he : e < 2) (hw : wf len siz n ang row) (hst : stR len siz ded n ang row (kk 0)) (hlg : lgS L (kk 32 4) (kk 5)) (h1 : 1 ≤ k) (h31 : k < 2 ^ 31)
    (A : len (posOf (10 + 10 * e) ang) = 0 → K (-2) kk)
    (B : 0 < len (posOf (10 + 10 * e) ang) → ¬ k ≤ (row (srcOf (10 + 10 * e) ang)).length → K (-6) kk)
    (C : 0 < len (posOf (10 + 10 * e) ang) → k ≤ (row (srcOf (10 + 10 * e) ang)).length → ¬ mvErr len siz ded row (10 + 10 * e) ang k = 0 → K (mvErr len siz ded row (10 + 10 * e) ang k) kk)
    (D : 0 < len (posOf (10 + 10 * e) ang) → k ≤ (row (srcOf (10 + 10 * e) ang)).length → mvErr len siz ded row (10 + 10 * e) ang k = 0 → ∀ k', stR len siz ded n ang (mvA (10 + 10 * e) (posOf (10 + 10 * e) ang) row k) (k' 0) → lgS (addL L (10 + 10 * e + k)) (k' 32 4) (k' 5) → (∀ a, a ≠ 0 → a ≠ 5 → a ≠ 32 → k' a = kk a) → (∀ i, i ≠ 4 → k' 32 i = kk 32 i) → K (nI (mvA (10 + 10 * e) (posOf (10 + 10 * e) ang) row k (tgtOf (10 + 10 * e) ang)).length) k') : wX5_moveIn (nI e) (nI k) kk K := by
  obtain ⟨rA, rB⟩ := id hst
  have ha := hw.2.2.2.2.2.1
  have hk := kd_e (e := e) he (Or.inl rfl : (10 : Nat) = 10 ∨ (10 : Nat) = 30)
  have hpe := pos_eq (e := e) he ha (Or.inl rfl : (10 : Nat) = 10 ∨ (10 : Nat) = 30)
  have hlt : 10 + 10 * e < 30 := by omega
  have esrc : srcOf (10 + 10 * e) ang = posOf (10 + 10 * e) ang := if_pos hlt
  have etgt : tgtOf (10 + 10 * e) ang = 12 := if_pos hlt
  have hpos := posOf_lt (kd := 10 + 10 * e) ha
  obtain ⟨r1, r3, r4⟩ := rB (posOf (10 + 10 * e) ang) (by omega)
  have hseg : segErr len siz ded row (posOf (10 + 10 * e) ang) 0 k 12 = mvErr len siz ded row (10 + 10 * e) ang k := by
    unfold segErr mvErr
    rw [← esrc, seg_mv0 hk (by omega), etgt]
  refine m_end he ⟨fun q => absurd q (by decide), fun _ => ⟨fun _ => t5_pointed rA he ?_, fun q => absurd (nI_le (a := 1) h1 h31) q⟩⟩
  rw [← hpe]
  refine t5_isTrack rA (by omega) (fun hl => ⟨fun q => absurd q (by decide), fun _ => ?_⟩) (fun hl => ⟨fun _ => A hl, fun q => absurd rfl q⟩)
  rw [l31, nI_clamp (by omega), r1]
  refine ⟨v148 (by omega), fun q => ?_, fun q => ?_⟩
  · have hkl : k ≤ (row (posOf (10 + 10 * e) ang)).length := (nI_leI h31 (by omega)).mp q
    refine t5_wrongMove (s := posOf (10 + 10 * e) ang) (from_ := 0) (t := 12) (by omega) (by decide) rA rB hw.1 (by omega) ?_
    rw [hseg]
    refine ⟨fun q => ?_, fun q => C hl (by rw [esrc]; exact hkl) q⟩
    have cap := wf_cap hw (src := posOf (10 + 10 * e) ang) (tgt := 12) (by omega) (by decide) (by omega)
    refine t5_goIn he rA rB hkl (by omega) (fun m10 hB10 hk10 => ?_)
    rw [code_e]
    refine t5_write (L := L) (by rw [hk10.2 32 (by decide), hk10.2 5 (by decide)]; exact hlg) (fun m11 g1 g2 g3 => ⟨v148 (i := 43) (by decide), ?_⟩)
    have e0 : m11 0 = m10 0 := g2 0 (by decide) (by decide)
    have := D hl (by rw [esrc]; exact hkl) q m11 (by rw [e0]; exact hst.keep hk10.1 hB10) g1 (fun a h0 h5 h32 => by rw [g2 a h5 h32, hk10.2 a h0]) (fun i hi => by rw [g3 i hi, hk10.2 32 (by decide)])
    rw [etgt] at this
    rw [c43, e0, (hB10 12 (by decide)).1]
    exact this
  · exact B hl (by rw [esrc]; exact fun z => q (nI_le z (by omega)))
theorem t5_moveOut {kk : Mu} {K : Int32 → Mu → Prop} (he : e < 2) (hw : wf len siz n ang row) (hst : stR len siz ded n ang row (kk 0)) (hlg : lgS L (kk 32 4) (kk 5)) (h1 : 1 ≤ k) (h31 : k < 2 ^ 31)
    (A : len (posOf (30 + 10 * e) ang) = 0 → K (-2) kk)
    (B : 0 < len (posOf (30 + 10 * e) ang) → ¬ k ≤ (row (srcOf (30 + 10 * e) ang)).length → K (-6) kk)
    (C : 0 < len (posOf (30 + 10 * e) ang) → k ≤ (row (srcOf (30 + 10 * e) ang)).length → ¬ mvErr len siz ded row (30 + 10 * e) ang k = 0 → K (mvErr len siz ded row (30 + 10 * e) ang k) kk)
    (D : 0 < len (posOf (30 + 10 * e) ang) → k ≤ (row (srcOf (30 + 10 * e) ang)).length → mvErr len siz ded row (30 + 10 * e) ang k = 0 → ∀ k', stR len siz ded n ang (mvA (30 + 10 * e) (posOf (30 + 10 * e) ang) row k) (k' 0) → lgS (addL L (30 + 10 * e + k)) (k' 32 4) (k' 5) → (∀ a, a ≠ 0 → a ≠ 5 → a ≠ 32 → k' a = kk a) → (∀ i, i ≠ 4 → k' 32 i = kk 32 i) → K (nI (mvA (30 + 10 * e) (posOf (30 + 10 * e) ang) row k (tgtOf (30 + 10 * e) ang)).length) k') : wX5_moveOut (nI e) (nI k) kk K := by
  obtain ⟨rA, rB⟩ := id hst
  have ha := hw.2.2.2.2.2.1
  have hk := kd_e (e := e) he (Or.inr rfl : (30 : Nat) = 10 ∨ (30 : Nat) = 30)
  have hpe := pos_eq (e := e) he ha (Or.inr rfl : (30 : Nat) = 10 ∨ (30 : Nat) = 30)
  have hlt : ¬ 30 + 10 * e < 30 := by omega
  have esrc : srcOf (30 + 10 * e) ang = 12 := if_neg hlt
  have etgt : tgtOf (30 + 10 * e) ang = posOf (30 + 10 * e) ang := if_neg hlt
  have hpos := posOf_lt (kd := 30 + 10 * e) ha
  obtain ⟨r1, r3, r4⟩ := rB 12 (by decide)
  refine m_end he ⟨fun q => absurd q (by decide), fun _ => ⟨fun _ => t5_pointed rA he ?_, fun q => absurd (nI_le (a := 1) h1 h31) q⟩⟩
  rw [← hpe]
  refine t5_isTrack rA (by omega) (fun hl => ⟨fun q => absurd q (by decide), fun _ => ?_⟩) (fun hl => ⟨fun _ => A hl, fun q => absurd rfl q⟩)
  refine ⟨v148 (i := 43) (by decide), fun x7 e7 => ?_⟩
  rw [c43, r1] at e7
  rw [e7]
  have key : ∀ f, f + k ≤ (row 12).length → segErr len siz ded row 12 f k (posOf (30 + 10 * e) ang) = mvErr len siz ded row (30 + 10 * e) ang k → jnX5_moveOut_65 K (nI e) (nI k) (nI (posOf (30 + 10 * e) ang)) (nI f) (12 : Int32) kk := by
    intro f hf hseg
    have hkl : k ≤ (row 12).length := by omega
    unfold jnX5_moveOut_65
    refine t5_wrongMove (s := 12) (from_ := f) (t := posOf (30 + 10 * e) ang) (by decide) (by omega) rA rB hw.1 hf ?_
    rw [hseg]
    refine ⟨fun q => ?_, fun q => C hl (by rw [esrc]; exact hkl) q⟩
    have cap := wf_cap hw (src := 12) (tgt := posOf (30 + 10 * e) ang) (by decide) (by omega) (by omega)
    refine t5_goOut he rA rB hkl (by omega) (fun m10 hB10 hk10 => ?_)
    rw [code_e3]
    refine t5_write (L := L) (by rw [hk10.2 32 (by decide), hk10.2 5 (by decide)]; exact hlg) (fun m11 g1 g2 g3 => ?_)
    rw [l31]
    refine ⟨v148 (by omega), ?_⟩
    have e0 : m11 0 = m10 0 := g2 0 (by decide) (by decide)
    have := D hl (by rw [esrc]; exact hkl) q m11 (by rw [e0]; exact hst.keep hk10.1 hB10) g1 (fun a h0 h5 h32 => by rw [g2 a h5 h32, hk10.2 a h0]) (fun i hi => by rw [g3 i hi, hk10.2 32 (by decide)])
    rw [etgt] at this
    rw [nI_clamp (by omega), e0, (hB10 _ (by omega)).1]
    exact this
  refine ⟨fun q => ?_, fun q => ?_⟩
  · have hkl : k ≤ (row 12).length := (nI_leI h31 (by omega)).mp q
    have : e = 0 ∨ e = 1 := by omega
    rcases this with rfl | rfl
    · refine ⟨fun _ => key 0 (by omega) ?_, fun q => absurd rfl q⟩
      have hs0 := seg_mv0 (row := row) (k := k) (ang := ang) hk (by decide)
      rw [esrc] at hs0
      unfold segErr mvErr
      rw [hs0, etgt]
    · refine ⟨fun q => absurd q (by decide), fun _ => ?_⟩
      rw [pk_sub hkl]
      refine key _ (by omega) ?_
      unfold segErr mvErr
      rw [seg_mv4 (ang := ang) hkl, etgt]
  · exact B hl (by rw [esrc]; exact fun z => q (nI_le z (by omega)))
end MV
section JM
variable {P : Bool → (Nat → Nat) → (Nat → Nat) → (Nat → Bool) → Nat → Mu → Mu → Prop} {hp s0 s1 : Bool} {m : HM} {k : Mu}
theorem mv_wf {len siz : Nat → Nat} {ded : Nat → Bool} {n ang kd c : Nat} {row : Nat → List Nat} (hk : isKd kd) (hw : wf len siz n ang row) (he : mvErr len siz ded row kd ang c = 0) : wf len siz n ang (mvA kd (posOf kd ang) row c) := by
  have ha := hw.2.2.2.2.2.1
  obtain ⟨hne, hs, ht⟩ := src_ne hk ha
  obtain ⟨p1, p2, p3⟩ := mv_perms (row := row) (k := c) hk ha
  refine wf_mv hs ht hne p1 p2 p3 ?_ hw
  unfold mvErr at he
  split at he
  · exact absurd he (by decide)
  · split at he
    · exact absurd he (by decide)
    · omega
theorem mv_J (hP : pK P) {len siz : Nat → Nat} {ded : Nat → Bool} {n ang kd c : Nat} {row : Nat → List Nat} {L : List Nat} (hk : isKd kd) (hJ : JS P len siz ded n ang row L hp s0 s1 m k) (h1 : 1 ≤ c) (hc : c ≤ (row (srcOf kd ang)).length) (he : mvErr len siz ded row kd ang c = 0) {y g k' : Mu} (g1 : stC len siz ded n ang (mvA kd (posOf kd ang) row c) y) (g2 : lgS (addL L (kd + c)) (g 2 1) (g 0)) (q1 : stR len siz ded n ang (mvA kd (posOf kd ang) row c) (k' 0)) (q2 : lgS (addL L (kd + c)) (k' 32 4) (k' 5)) (q3 : ∀ a, a ≠ 0 → a ≠ 5 → a ≠ 32 → k' a = k a) (q4 : ∀ i, i ≠ 4 → k' 32 i = k 32 i) : JP P hp s0 s1 (m.1, y, g, m.2.2.2) k' := by
  obtain ⟨hw, h2, h3, h4, h5, h6, h7, h8, h9⟩ := hJ
  have ha := hw.2.2.2.2.2.1
  obtain ⟨hne, hs, ht⟩ := src_ne hk ha
  have cap := wf_cap hw hs ht hne
  obtain ⟨v1, v2, v3, v4, v5⟩ := rv_kd (ang := ang) hk
  have hbk : mvA (rv kd) (posOf (rv kd) ang) (mvA kd (posOf kd ang) row c) c = row := by
    rw [v5]
    exact mv_back hk (posOf_lt ha) hc
  refine ⟨len, siz, ded, n, ang, mvA kd (posOf kd ang) row c, addL L (kd + c), mv_wf hk hw he, g1, q1, lgC.mk g2 q2, ?_, ?_, h7.keep (q3 1 (by decide) (by decide) (by decide)) (q3 2 (by decide) (by decide) (by decide)), h8.keep (q3 1 (by decide) (by decide) (by decide)) (q3 2 (by decide) (by decide) (by decide)), ?_⟩
  · rw [addL_rev]
    unfold und
    refine Or.inr (Or.inr ⟨kd, c, hk, h1, by omega, rfl, ?_, ?_, ?_⟩)
    · rw [v3, mv_tlen hk ha hc]; omega
    · rw [hbk]; exact hw
    · rw [hbk]; exact und_cut h5
  · show m.1 = k' 32 3
    rw [q4 3 (by decide)]; exact h6
  · exact hP _ _ _ _ _ _ k k' (fun a h6 h32 => q3 a (by omega) (by omega) h32) (fun i hi => q4 i (by omega)) h9
theorem one_or (x : Int32) : (∃ c : Nat, 1 ≤ c ∧ c < 2 ^ 31 ∧ x = nI c) ∨ ¬ (1 : Int32) ≤ x := by
  rcases neg_or x with z | ⟨j, hj, rfl⟩
  · exact Or.inr (fun q => absurd (Int32.lt_of_le_of_lt q z) (by decide))
  · by_cases h0 : j = 0
    · subst h0; exact Or.inr (by decide)
    · exact Or.inl ⟨j, by omega, hj, rfl⟩
theorem o_12 (hP : pK P) (a1 a2 : Int32) (hJ : JP P hp s0 s1 m k) : ok_12 (JP P) a1 a2 hp s0 s1 m k := by
  obtain ⟨len, siz, ded, n, ang, row, L, hS⟩ := id hJ
  obtain ⟨hw, h2, h3, h4, h5, h6, h7, h8, h9⟩ := id hS
  unfold ok_12 wX4_moveIn
  rcases end_or a1 with ⟨e, he, rfl⟩ | ⟨x1, x2, x3⟩
  · refine c_end he ⟨fun q => absurd q (by decide), fun _ => ?_⟩
    rcases one_or a2 with ⟨c, c1, c31, rfl⟩ | z
    · refine ⟨fun _ => ?_, fun q => absurd (nI_le (a := 1) c1 c31) q⟩
      have hk := kd_e (e := e) he (Or.inl rfl : (10 : Nat) = 10 ∨ (10 : Nat) = 30)
      have key : wX4_moveIfPossible (nI (10 + 10 * e)) (nI c) hp s0 s1 m (fun x m1 => wX5_moveIn (nI e) (nI c) k (fun y k1 => x = y ∧ JP P hp s0 s1 m1 k1)) := by
        refine t4_move hk hw h2 h4.c c1 c31 (fun A => ?_) (fun A B => ?_) (fun A B C => ?_) (fun A B C y g g1 g2 => ?_)
        · exact t5_moveIn he hw h3 h4.r c1 c31 (fun _ => ⟨rfl, hJ⟩) (fun z => absurd z (by omega)) (fun z => absurd z (by omega)) (fun z => absurd z (by omega))
        · exact t5_moveIn he hw h3 h4.r c1 c31 (fun z => absurd z (by omega)) (fun _ _ => ⟨rfl, hJ⟩) (fun _ z => absurd z B) (fun _ z => absurd z B)
        · exact t5_moveIn he hw h3 h4.r c1 c31 (fun z => absurd z (by omega)) (fun _ z => absurd B z) (fun _ _ _ => ⟨rfl, hJ⟩) (fun _ _ z => absurd z C)
        · exact t5_moveIn he hw h3 h4.r c1 c31 (fun z => absurd z (by omega)) (fun _ z => absurd B z) (fun _ _ z => absurd C z) (fun _ _ _ k' q1 q2 q3 q4 => ⟨rfl, mv_J hP hk hS c1 B C g1 g2 q1 q2 q3 q4⟩)
      have : e = 0 ∨ e = 1 := by omega
      rcases this with rfl | rfl
      · exact ⟨fun _ => key, fun q => absurd rfl q⟩
      · exact ⟨fun q => absurd q (by decide), fun _ => key⟩
    · exact ⟨fun q => absurd q z, fun _ => m_end he ⟨fun q => absurd q (by decide), fun _ => ⟨fun q => absurd q z, fun _ => ⟨rfl, hJ⟩⟩⟩⟩
  · exact c_endn x1 x2 ⟨fun _ => m_endn x3 ⟨fun _ => ⟨rfl, hJ⟩, fun q => absurd rfl q⟩, fun q => absurd rfl q⟩
theorem o_13 (hP : pK P) (a1 a2 : Int32) (hJ : JP P hp s0 s1 m k) : ok_13 (JP P) a1 a2 hp s0 s1 m k := by
  obtain ⟨len, siz, ded, n, ang, row, L, hS⟩ := id hJ
  obtain ⟨hw, h2, h3, h4, h5, h6, h7, h8, h9⟩ := id hS
  unfold ok_13 wX4_moveOut
  rcases end_or a1 with ⟨e, he, rfl⟩ | ⟨x1, x2, x3⟩
  · refine c_end he ⟨fun q => absurd q (by decide), fun _ => ?_⟩
    rcases one_or a2 with ⟨c, c1, c31, rfl⟩ | z
    · refine ⟨fun _ => ?_, fun q => absurd (nI_le (a := 1) c1 c31) q⟩
      have hk := kd_e (e := e) he (Or.inr rfl : (30 : Nat) = 10 ∨ (30 : Nat) = 30)
      have key : wX4_moveIfPossible (nI (30 + 10 * e)) (nI c) hp s0 s1 m (fun x m1 => wX5_moveOut (nI e) (nI c) k (fun y k1 => x = y ∧ JP P hp s0 s1 m1 k1)) := by
        refine t4_move hk hw h2 h4.c c1 c31 (fun A => ?_) (fun A B => ?_) (fun A B C => ?_) (fun A B C y g g1 g2 => ?_)
        · exact t5_moveOut he hw h3 h4.r c1 c31 (fun _ => ⟨rfl, hJ⟩) (fun z => absurd z (by omega)) (fun z => absurd z (by omega)) (fun z => absurd z (by omega))
        · exact t5_moveOut he hw h3 h4.r c1 c31 (fun z => absurd z (by omega)) (fun _ _ => ⟨rfl, hJ⟩) (fun _ z => absurd z B) (fun _ z => absurd z B)
        · exact t5_moveOut he hw h3 h4.r c1 c31 (fun z => absurd z (by omega)) (fun _ z => absurd B z) (fun _ _ _ => ⟨rfl, hJ⟩) (fun _ _ z => absurd z C)
        · exact t5_moveOut he hw h3 h4.r c1 c31 (fun z => absurd z (by omega)) (fun _ z => absurd B z) (fun _ _ z => absurd C z) (fun _ _ _ k' q1 q2 q3 q4 => ⟨rfl, mv_J hP hk hS c1 B C g1 g2 q1 q2 q3 q4⟩)
      have : e = 0 ∨ e = 1 := by omega
      rcases this with rfl | rfl
      · exact ⟨fun _ => key, fun q => absurd rfl q⟩
      · exact ⟨fun q => absurd q (by decide), fun _ => key⟩
    · exact ⟨fun q => absurd q z, fun _ => m_end he ⟨fun q => absurd q (by decide), fun _ => ⟨fun q => absurd q z, fun _ => ⟨rfl, hJ⟩⟩⟩⟩
  · exact c_endn x1 x2 ⟨fun _ => m_endn x3 ⟨fun _ => ⟨rfl, hJ⟩, fun q => absurd rfl q⟩, fun q => absurd rfl q⟩
end JM
