/-! a locomotive comes -/
theorem sm_eq {s s' : Nat → Nat} : ∀ {xs : List Nat}, (∀ l ∈ xs, s' l = s l) → sm s' xs = sm s xs
  | [], _ => rfl
  | x :: xs, h => by
    show s' x + sm s' xs = s x + sm s xs
    rw [h x List.mem_cons_self, sm_eq (fun l hl => h l (List.mem_cons_of_mem _ hl))]
section AD
variable {P : Bool → (Nat → Nat) → (Nat → Nat) → (Nat → Bool) → Nat → Mu → Mu → Prop} {hp s0 s1 : Bool} {m : HM} {k : Mu} {len siz : Nat → Nat} {ded : Nat → Bool} {n ang p x : Nat} {row : Nat → List Nat}
theorem wf.add (hw : wf len siz n ang row) (hp : p < 13) (hn : n < 8) (hfit : sm siz (row p) + x ≤ len p) : wf len (va_up siz n x) (n + 1) ang (va_up row p (insAt (row p) 0 n)) := by
  obtain ⟨w1, w2, w3, w4, w5, w6, w7, w8⟩ := hw
  rw [ins0]
  have hnot : ∀ q, q < 13 → n ∉ row q := fun q hq hm => absurd (w1 q hq n hm) (by omega)
  have key : ∀ q l, q < 13 → l ∈ va_up row p (n :: row p) q → (l = n ∧ q = p) ∨ (l ≠ n ∧ l ∈ row q) := by
    intro q l hq hl
    by_cases e : q = p
    · subst e
      rw [va_up_self] at hl
      rcases List.mem_cons.mp hl with z | z
      · exact Or.inl ⟨z, rfl⟩
      · exact Or.inr ⟨fun z2 => hnot q hq (by rw [← z2]; exact z), z⟩
    · rw [va_up_ne _ _ e] at hl
      exact Or.inr ⟨fun z2 => hnot q hq (by rw [← z2]; exact hl), hl⟩
  have hsm : ∀ q, q < 13 → sm (va_up siz n x) (row q) = sm siz (row q) := fun q hq => sm_eq (fun l hl => va_up_ne _ _ (by have := w1 q hq l hl; omega))
  refine ⟨fun q hq l hl => ?_, fun q hq => ?_, fun a b l ha hb h1 h2 => ?_, fun l hl => ?_, fun q hq => ?_, w6, by omega, w8⟩
  · rcases key q l hq hl with ⟨z, -⟩ | ⟨-, z⟩
    · omega
    · have := w1 q hq l z
      omega
  · by_cases e : q = p
    · subst e
      rw [va_up_self]
      exact List.nodup_cons.mpr ⟨hnot q hq, w2 q hq⟩
    · rw [va_up_ne _ _ e]; exact w2 q hq
  · rcases key a l ha h1 with ⟨a1, a2⟩ | ⟨a1, a2⟩ <;> rcases key b l hb h2 with ⟨b1, b2⟩ | ⟨b1, b2⟩
    · rw [a2, b2]
    · exact absurd a1 b1
    · exact absurd b1 a1
    · exact w3 a b l ha hb a2 b2
  · by_cases e : l = n
    · subst e
      exact ⟨p, hp, by rw [va_up_self]; exact List.mem_cons_self⟩
    · obtain ⟨q, hq, hm⟩ := w4 l (by omega)
      refine ⟨q, hq, ?_⟩
      by_cases e2 : q = p
      · subst e2; rw [va_up_self]; exact List.mem_cons_of_mem _ hm
      · rw [va_up_ne _ _ e2]; exact hm
  · by_cases e : q = p
    · subst e
      rw [va_up_self]
      show va_up siz n x n + sm (va_up siz n x) (row q) ≤ len q
      rw [va_up_self, hsm q hq]
      omega
    · rw [va_up_ne _ _ e, hsm q hq]
      exact w5 q hq
theorem t3_add {y : Mu} {K : Int32 → Mu → Prop} (hw : wf len siz n ang row) (h : stC len siz ded n ang row y) (hpl : p < 13) (hn : n < 8) (hx1 : 1 ≤ x) (hx : x ≤ 20) (hK : ∀ y', stC len (va_up siz n x) (va_up ded n false) (n + 1) ang (va_up row p (insAt (row p) 0 n)) y' → K (nI n) y') : wX3_addFirst (nI x) (nI p) y K := by
  obtain ⟨⟨y1, y2, yn, y4, D, D8, eD, hD⟩, hB, h7⟩ := h
  intro x1 e1
  rw [yn] at e1
  rw [e1]
  refine ⟨fun z => absurd z (nI_pos (by omega)), fun _ => ⟨fun _ => ⟨vp_in_nI hn (by decide), fun m4 e4 m5 e5 => ?_⟩, fun z => absurd (nI_lt (b := 8) hn (by decide)) z⟩⟩
  rw [nI_clamp (by omega)] at e4
  have g4 : m4 8 = y 8 := by rw [e4, pu_upn _ _ _ (by decide)]
  rw [g4, yn, nI_1] at e5
  have g85 : m5 8 5 = nI (n + 1) := by rw [e5, pu_up, pu_u]
  have g86 : m5 8 6 = nI D := by rw [e5, pu_up, pu_un _ _ (by decide), g4]; exact eD
  have g87 : m5 8 7 = nI ang := by rw [e5, pu_up, pu_un _ _ (by decide), g4]; exact h7
  have g54 : m5 4 = upd (y 4) n (nI x) := by rw [e5, pu_upn _ _ _ (by decide), e4, pu_up]
  have g5 : ∀ a, a ≠ 4 → a ≠ 8 → m5 a = y a := fun a h4 h8 => by rw [e5, pu_upn _ _ _ h8, e4, pu_upn _ _ _ h4]
  refine t_markDead g85 (by omega) (by omega) g86 D8 (fun m6 D' e6 D6 hD6 => ?_)
  have g6 : ∀ a, a ≠ 8 → m6 a = m5 a := fun a h8 => by rw [e6, pu_upn _ _ _ h8]
  have hB6 : yB (va_up siz n x) row m6 := by
    intro q hq
    obtain ⟨b1, b2, b3, b4⟩ := hB q hq
    rw [g6 2 (by decide), g6 1 (by decide), g6 3 (by decide), g6 4 (by decide), g5 2 (by decide) (by decide), g5 1 (by decide) (by decide), g5 3 (by decide) (by decide), g54]
    refine ⟨b1, ?_, b3, fun i l hl => ?_⟩
    · rw [b2, sm_eq (s := siz) (fun l hl => va_up_ne _ _ (by have := hw.1 q hq l hl; omega))]
    · obtain ⟨c1, c2, c3⟩ := b4 i l hl
      have hln := hw.1 q hq l (List.mem_of_getElem? hl)
      exact ⟨c1, c2, by rw [pu_un _ _ (by omega), va_up_ne _ _ (by omega)]; exact c3⟩
  have hlen : (row p).length < 8 := by
    have := few n (row p) (hw.2.1 p hpl) (hw.1 p hpl)
    omega
  refine t_put hB6 hpl (Nat.zero_le _) hlen hn (by rw [g6 4 (by decide), g54, pu_u, va_up_self]) (fun m7 hB7 hs7 => hK m7 ⟨⟨?_, ?_, ?_, by omega, D', D6, ?_, fun l hl => ?_⟩, hB7, ?_⟩)
  · rw [hs7 0 (by decide) (by decide) (by decide), g6 0 (by decide), g5 0 (by decide) (by decide)]; exact y1
  · rw [hs7 4 (by decide) (by decide) (by decide), g6 4 (by decide), g54]
    intro l hl
    by_cases e : l = n
    · subst e; rw [pu_u, va_up_self]; exact ⟨rfl, hx1, hx⟩
    · rw [pu_un _ _ e, va_up_ne _ _ e]; exact y2 l (by omega)
  · rw [hs7 8 (by decide) (by decide) (by decide), e6, pu_up, pu_un _ _ (by decide)]; exact g85
  · rw [hs7 8 (by decide) (by decide) (by decide), e6, pu_up, pu_u]
  · rw [hD6 l (by omega)]
    by_cases e : l = n
    · subst e; rw [if_pos rfl, va_up_self]; rfl
    · rw [if_neg e, va_up_ne _ _ e]; exact hD l (by omega)
  · rw [hs7 8 (by decide) (by decide) (by decide), e6, pu_up, pu_un _ _ (by decide)]; exact g87
theorem o_2 (hF : pF P) (a1 a2 : Int32) (hJ : JP P hp s0 s1 m k) : ok_2 (JP P) a1 a2 hp s0 s1 m k := by
  obtain ⟨len, siz, ded, n, ang, row, L, hS⟩ := id hJ
  obtain ⟨hw, h2, h3, h4, h5, h6, h7, h8, h9⟩ := id hS
  obtain ⟨r1, r2, rn, r4, r5, r6, r7⟩ := id h3.1
  have yn := h2.1.2.2.1
  unfold ok_2 wX4_addLocomotive
  rcases pos_or a2 with ⟨p, hp12, rfl⟩ | ⟨x1, x2⟩
  · have hpl : p < 13 := by omega
    obtain ⟨el, h60⟩ := h2.1.1 p hpl
    refine c_pos hp12 ⟨fun q => absurd q (by decide), fun _ => t_lengthAt hpl ?_⟩
    rw [el]
    rcases Nat.eq_zero_or_pos (len p) with hl0 | hl0
    · refine ⟨fun _ => m_pos hp12 ⟨fun q => absurd q (by decide), fun _ => t5_isTrack h3.1 hpl (fun z => absurd z (by omega)) (fun _ => ⟨fun _ => ⟨rfl, hJ⟩, fun q => absurd rfl q⟩)⟩, fun q => absurd (by rw [hl0]; rfl) q⟩
    · refine ⟨fun q => absurd q (nI_ne0 hl0 (by omega)), fun _ => ?_⟩
      have pre : ∀ (r : Int32) (m1 : HM), wX5_in a1 (1 : Int32) (20 : Int32) (fun r5 : Int32 => ((r5 = 0 → r = (-4 : Int32) ∧ JP P hp s0 s1 m1 k) ∧ (¬ r5 = 0 → wX5_used (nI p) k (fun r7 : Int32 => (vp_in (nI p) 148 ∧ (((r7 + a1) ≤ (k 0 p) → (vp_in (14 : Int32) 148 ∧ (((k 0 14) = (8 : Int32) → r = (-9 : Int32) ∧ JP P hp s0 s1 m1 k) ∧ (¬ (k 0 14) = (8 : Int32) → (vp_in (14 : Int32) 148 ∧ ∀ x10 : Int32, x10 = (k 0 14) → (vp_in ((15 : Int32) + x10) 148 ∧ ∀ m11 : Mu, m11 = mu_up k 0 (((15 : Int32) + x10)).toNatClampNeg a1 → (vp_in ((23 : Int32) + x10) 148 ∧ ∀ m12 : Mu, m12 = mu_up m11 0 (((23 : Int32) + x10)).toNatClampNeg (0 : Int32) → (vp_in (14 : Int32) 148 ∧ (vp_in (14 : Int32) 148 ∧ ∀ m13 : Mu, m13 = mu_up m12 0 14 ((m12 0 14) + (1 : Int32)) → wX5_insert (nI p) (0 : Int32) x10 m13 (fun m14 : Mu => wX5_change m14 (fun m15 : Mu => r = x10 ∧ JP P hp s0 s1 m1 m15))))))))))) ∧ (¬ (r7 + a1) ≤ (k 0 p) → r = (-8 : Int32) ∧ JP P hp s0 s1 m1 k))))))) → wX5_addLocomotive a1 (nI p) k (fun y k1 => r = y ∧ JP P hp s0 s1 m1 k1) := by
        intro r m1 h
        refine m_pos hp12 ⟨fun q => absurd q (by decide), fun _ => t5_isTrack h3.1 hpl (fun _ => ⟨fun q => absurd q (by decide), fun _ => ?_⟩) (fun z => absurd hl0 (by omega))⟩
        rw [l0, nI_clamp (by omega), c14]
        exact h
      by_cases z1 : a1 < 1
      · exact ⟨fun _ => pre _ _ (in_lo z1 ⟨fun _ => ⟨rfl, hJ⟩, fun q => absurd rfl q⟩), fun q => absurd z1 q⟩
      · refine ⟨fun q => absurd q z1, fun _ => ⟨fun z20 => ?_, fun z20 => pre _ _ (in_hi (Int32.not_le.mp z20) ⟨fun _ => ⟨rfl, hJ⟩, fun q => absurd rfl q⟩)⟩⟩
        rcases neg_or a1 with z2 | ⟨x, hx, rfl⟩
        · exact absurd (Int32.lt_trans z2 (by decide : (0 : Int32) < 1)) z1
        have hx20 : x ≤ 20 := (nI_leI hx (b := 20) (by decide)).mp z20
        have hx1 : 1 ≤ x := by
          rcases Nat.eq_zero_or_pos x with w | w
          · subst w; exact absurd (by decide) z1
          · exact w
        have hsm := hw.2.2.2.2.1 p hpl
        refine t_freeAt hpl ?_
        rw [el, (h2.2.1 p hpl).2.1, pk_sub hsm, yn]
        have inn : ∀ (r : Int32) (m1 : HM), (sm siz (row p) + x ≤ len p → (n = 8 → r = -9 ∧ JP P hp s0 s1 m1 k) ∧ (n < 8 → ∀ k', stR len (va_up siz n x) (va_up ded n false) (n + 1) ang (va_up row p (insAt (row p) 0 n)) (k' 0) → k' 32 4 = 0 → k' 32 6 = -11 → (∀ a, a ≠ 0 → a ≠ 32 → k' a = k a) → (∀ i, i ≠ 4 → i ≠ 6 → k' 32 i = k 32 i) → r = nI n ∧ JP P hp s0 s1 m1 k')) → (¬ sm siz (row p) + x ≤ len p → r = -8 ∧ JP P hp s0 s1 m1 k) → wX5_addLocomotive (nI x) (nI p) k (fun y k1 => r = y ∧ JP P hp s0 s1 m1 k1) := by
          intro r m1 hA hB
          refine pre r m1 (in_yes z1 (Int32.not_lt.mpr z20) ⟨fun q => absurd q (by decide), fun _ => t5_used h3.1 h3.2 hpl (hw.1 p hpl) ⟨v148 (by omega), ?_⟩⟩)
          rw [nI_add, (r1 p hpl).1, rn]
          refine ⟨fun q => ⟨v148 (i := 14) (by decide), fun q8 => ?_, fun q8 => ⟨v148 (i := 14) (by decide), fun x10 e10 => ?_⟩⟩, fun q => hB (fun z => q (nI_le z (by omega)))⟩
          · exact (hA ((nI_leI (by omega) (by omega)).mp q)).1 ((nI_eq (by omega) (b := 8) (by decide)).mp q8)
          · have hn8 : n < 8 := by
              by_cases w : n = 8
              · subst w; exact absurd rfl q8
              · omega
            have hfin := (hA ((nI_leI (by omega) (by omega)).mp q)).2 hn8
            rw [e10, l15, l23, nI_clamp (by omega), nI_clamp (by omega)]
            refine ⟨v148 (by omega), fun m11 e11 => ⟨v148 (by omega), fun m12 e12 => ⟨v148 (i := 14) (by decide), v148 (i := 14) (by decide), fun m13 e13 => ?_⟩⟩⟩
            have f13 : m13 0 = upd (upd (upd (k 0) (15 + n) (nI x)) (23 + n) 0) 14 (nI (n + 1)) := by
              rw [e13, pu_up, e12, pu_up, e11, pu_up, pu_un _ _ (by omega), pu_un _ _ (by omega), rn, nI_1]
            have o13 : ∀ a, a ≠ 0 → m13 a = k a := fun a ha => by rw [e13, pu_upn _ _ _ ha, e12, pu_upn _ _ _ ha, e11, pu_upn _ _ _ ha]
            have hB13 : aB row (m13 0) := by
              intro q hq
              obtain ⟨b1, b2, b3⟩ := h3.2 q hq
              rw [f13]
              refine ⟨by rw [pu_un _ _ (by omega), pu_un _ _ (by omega), pu_un _ _ (by omega)]; exact b1, b2, fun j l hl => ?_⟩
              rw [pu_un _ _ (by omega), pu_un _ _ (by omega), pu_un _ _ (by omega)]
              exact b3 j l hl
            have hlen : (row p).length < 8 := by
              have := few n (row p) (hw.2.1 p hpl) (hw.1 p hpl)
              omega
            refine t5_ins (i := 0) hB13 hpl (Nat.zero_le _) hlen (fun m14 hB14 hk14 hs14 => t5_change (fun k' c1 c2 c3 c4 => hfin k' ?_ c1 c2 (fun a h0 h32 => by rw [c3 a h32, hs14 a h0, o13 a h0]) (fun i i4 i6 => by rw [c4 i i4 i6, hs14 32 (by decide), o13 32 (by decide)])))
            rw [c3 0 (by decide)]
            refine ⟨⟨fun q hq => ?_, ?_, ?_, by omega, fun l hl => ?_, fun l hl => ?_, r7⟩, hB14⟩
            · rw [hk14 q (by omega), f13, pu_un _ _ (by omega), pu_un _ _ (by omega), pu_un _ _ (by omega)]; exact r1 q hq
            · rw [hk14 13 (by omega), f13, pu_un _ _ (by omega), pu_un _ _ (by omega), pu_un _ _ (by omega)]; exact r2
            · rw [hk14 14 (by omega), f13, pu_u]
            · rw [hk14 _ (by omega), f13, pu_un _ _ (by omega), pu_un _ _ (by omega)]
              by_cases e : l = n
              · subst e; rw [pu_u, va_up_self]; exact ⟨rfl, hx1, hx20⟩
              · rw [pu_un _ _ (by omega), va_up_ne _ _ e]; exact r5 l (by omega)
            · rw [hk14 _ (by omega), f13, pu_un _ _ (by omega)]
              by_cases e : l = n
              · subst e; rw [pu_u, va_up_self]; rfl
              · rw [pu_un _ _ (by omega), pu_un _ _ (by omega), va_up_ne _ _ e]; exact r6 l (by omega)
        refine ⟨fun q => ?_, fun q => ?_⟩
        · have hfit : sm siz (row p) + x ≤ len p := by
            have := (nI_leI hx (by omega)).mp q
            omega
          refine ⟨fun q8 => ?_, fun q8 => ?_⟩
          · have hn8 : n < 8 := (nI_ltI (by omega) (b := 8) (by decide)).mp q8
            refine t4_changes (fun g q g1 g2 g3 => t3_add hw h2 hpl hn8 hx1 hx20 (fun y' hy m12 e12 => inn _ _ (fun _ => ⟨fun z => absurd z (by omega), fun _ k' a1 a2 a3 a4 a5 => ⟨rfl, ?_⟩⟩) (fun z => absurd hfit z)))
            rw [e12]
            exact ch_J hF hS (hw.add hpl hn8 hfit) hy a1 g1 g2 g3 a2 a3 a4 a5
          · have hn8 : n = 8 := by
              by_cases w : n < 8
              · exact absurd (nI_lt (b := 8) w (by decide)) q8
              · omega
            exact inn _ _ (fun _ => ⟨fun _ => ⟨rfl, hJ⟩, fun z => absurd z (by omega)⟩) (fun z => absurd hfit z)
        · have hfit : ¬ sm siz (row p) + x ≤ len p := fun z => q (nI_le (by omega) (by omega))
          exact inn _ _ (fun z => absurd z hfit) (fun _ => ⟨rfl, hJ⟩)
  · exact c_posn x1 ⟨fun _ => m_posn x2 ⟨fun _ => ⟨rfl, hJ⟩, fun q => absurd rfl q⟩, fun q => absurd rfl q⟩
end AD
