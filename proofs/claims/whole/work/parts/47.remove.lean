/-! the newest locomotive leaves -/
theorem era_perm {xs : List Nat} {i l : Nat} (h : xs[i]? = some l) : (l :: eraAt xs i).Perm xs := by
  have e := split_at h
  have p : (xs.take i ++ l :: xs.drop (i + 1)).Perm (l :: (xs.take i ++ xs.drop (i + 1))) := List.perm_middle
  rw [e] at p
  exact p.symm
theorem idx_of {xs : List Nat} {l : Nat} (h : l ∈ xs) : ∃ i, xs.idxOf? l = some i ∧ xs[i]? = some l ∧ ∀ j, j < i → xs[j]? ≠ some l := by
  cases e : xs.idxOf? l with
  | none => exact absurd h (List.idxOf?_eq_none_iff.mp e)
  | some i =>
    have e' := e
    unfold List.idxOf? at e'
    obtain ⟨h1, h2, h3⟩ := List.findIdx?_eq_some_iff_getElem.mp e'
    refine ⟨i, rfl, ?_, fun j hj q => ?_⟩
    · rw [List.getElem?_eq_getElem h1]
      simpa using h2
    · have := h3 j hj
      rw [List.getElem?_eq_getElem (by omega)] at q
      simp at q
      simp [q] at this
section RM
variable {P : Bool → (Nat → Nat) → (Nat → Nat) → (Nat → Bool) → Nat → Mu → Mu → Prop} {hp s0 s1 : Bool} {m : HM} {k : Mu} {len siz : Nat → Nat} {ded : Nat → Bool} {n ang p i : Nat} {row : Nat → List Nat}
theorem wf.rem (hw : wf len siz (n + 1) ang row) (hp : p < 13) (hi : (row p)[i]? = some n) : wf len siz n ang (va_up row p (eraAt (row p) i)) := by
  obtain ⟨w1, w2, w3, w4, w5, w6, w7, w8⟩ := hw
  have pe := era_perm hi
  have hnp : n ∈ row p := List.mem_of_getElem? hi
  have nd := List.nodup_cons.mp (pe.symm.nodup (w2 p hp))
  have key : ∀ q l, q < 13 → l ∈ va_up row p (eraAt (row p) i) q → l ∈ row q ∧ l ≠ n := by
    intro q l hq hl
    by_cases e : q = p
    · subst e
      rw [va_up_self] at hl
      exact ⟨pe.mem_iff.mp (List.mem_cons_of_mem _ hl), fun z => nd.1 (by rw [← z]; exact hl)⟩
    · rw [va_up_ne _ _ e] at hl
      exact ⟨hl, fun z => e (w3 q p n hq hp (by rw [← z]; exact hl) hnp)⟩
  refine ⟨fun q hq l hl => ?_, fun q hq => ?_, fun a b l ha hb h1 h2 => w3 a b l ha hb (key a l ha h1).1 (key b l hb h2).1, fun l hl => ?_, fun q hq => ?_, w6, by omega, w8⟩
  · obtain ⟨a, b⟩ := key q l hq hl
    have := w1 q hq l a
    omega
  · by_cases e : q = p
    · subst e; rw [va_up_self]; exact nd.2
    · rw [va_up_ne _ _ e]; exact w2 q hq
  · obtain ⟨q, hq, hm⟩ := w4 l (by omega)
    refine ⟨q, hq, ?_⟩
    by_cases e : q = p
    · subst e
      rw [va_up_self]
      rcases List.mem_cons.mp (pe.mem_iff.mpr hm) with z | z
      · exact absurd z (by omega)
      · exact z
    · rw [va_up_ne _ _ e]; exact hm
  · have g := w5 q hq
    by_cases e : q = p
    · subst e
      rw [va_up_self]
      have := sm_era siz hi
      omega
    · rw [va_up_ne _ _ e]; exact g
theorem t5_rem_loop {K : Int32 → Mu → Prop} {l : Nat} (hB : aB row (k 0)) (hpl : p < 13) (hb : ∀ x ∈ row p, x < 8) (hl : l < 8) (hi : (row p)[i]? = some l) (hno : ∀ j, j < i → (row p)[j]? ≠ some l) (hK : wX5_take (nI p) (nI i) k (fun (r6 : Int32) (m7 : Mu) => (vp_in (14 : Int32) 148 ∧ (vp_in (14 : Int32) 148 ∧ ∀ m8 : Mu, m8 = mu_up m7 0 ((14 : Int32)).toNatClampNeg ((m7 0 ((14 : Int32)).toNatClampNeg) - (1 : Int32)) → wX5_change m8 (fun m9 : Mu => (vp_in (14 : Int32) 148 ∧ K (m9 0 ((14 : Int32)).toNatClampNeg) m9)))))) : ∀ d j, j + d = i → lpX5_removeLocomotive_31 K (d + 1) (nI l) (nI p) (nI j) k := by
  obtain ⟨b1, b3, b4⟩ := hB p hpl
  have hil := (List.getElem?_eq_some_iff.mp hi).1
  intro d
  induction d with
  | zero =>
    intro j hj
    have e : j = i := by omega
    subst e
    unfold lpX5_removeLocomotive_31
    refine t5_cell ⟨v148 (by omega), ?_⟩
    rw [nI_clamp (by omega), b4 _ _ hi]
    exact ⟨fun _ => hK, fun z => absurd rfl z⟩
  | succ d ih =>
    intro j hj
    have hx := List.getElem?_eq_getElem (show j < (row p).length by omega)
    generalize (row p)[j] = x at hx
    have hx8 := hb x (List.mem_of_getElem? hx)
    unfold lpX5_removeLocomotive_31
    refine t5_cell ⟨v148 (by omega), ?_⟩
    rw [nI_clamp (by omega), b4 _ _ hx]
    refine ⟨fun z => ?_, fun _ x10 e10 => ?_⟩
    · have : x = l := (nI_eq (by omega) (by omega)).mp z
      subst this
      exact absurd hx (hno j (by omega))
    · rw [e10, nI_1]
      exact ih (j + 1) (by omega)
theorem o_3 (hF : pF P) (hJ : JP P hp s0 s1 m k) : ok_3 (JP P) hp s0 s1 m k := by
  obtain ⟨len, siz, ded, n, ang, row, L, hS⟩ := id hJ
  obtain ⟨hw, h2, h3, h4, h5, h6, h7, h8, h9⟩ := id hS
  obtain ⟨y1, y2, yn, y4, D, D8, eD, hD⟩ := id h2.1
  obtain ⟨r1, r2, rn, r4, r5, r6, r7⟩ := id h3.1
  unfold ok_3 wX4_removeLocomotive
  rw [yn]
  cases n with
  | zero =>
    refine ⟨fun _ => ⟨v148 (i := 14) (by decide), ?_⟩, fun z => absurd rfl z⟩
    rw [c14, rn]
    exact ⟨fun _ => ⟨rfl, hJ⟩, fun z => absurd rfl z⟩
  | succ n =>
    have hn7 : n < 8 := by omega
    obtain ⟨p, hpl, hm⟩ := hw.2.2.2.1 n (by omega)
    have hno : ∀ q, q < p → n ∉ row q := fun q hq hm2 => absurd (hw.2.2.1 q p n (by omega) hpl hm2 hm) (by omega)
    obtain ⟨i, hi1, hi2, hi3⟩ := idx_of hm
    have hil := (List.getElem?_eq_some_iff.mp hi2).1
    have hb : ∀ q, q < 13 → ∀ x ∈ row q, x < 8 := fun q hq x hx => by have := hw.1 q hq x hx; omega
    refine ⟨fun z => absurd z (nI_ne0 (by omega) (by omega)), fun _ => t4_changes (fun g q g1 g2 g3 x1 e1 => ?_)⟩
    have e1' : x1 = nI n := by rw [e1]; show m.2.1 8 5 - 1 = nI n; rw [yn, nI_pred]
    rw [e1']
    refine t_placeOf h2.2.1 hpl (by omega) hm hno (t_indexIn h2.2.1 hpl (by omega) ?_)
    rw [hi1]
    refine t_take h2.2.1 hpl hi2 (fun m5 hB5 hs5 m6 e6 m7 e7 => ?_)
    rw [e7]
    refine ⟨v148 (i := 14) (by decide), ?_⟩
    rw [c14, rn]
    refine ⟨fun z => absurd z (nI_ne0 (by omega) (by omega)), fun _ => ⟨v148 (i := 14) (by decide), fun x2 e2 => ?_⟩⟩
    rw [nI_pred] at e2
    rw [e2]
    refine t5_placeOf h3.2 hpl (by omega) hb hm hno ⟨i + 1, t5_rem_loop h3.2 hpl (hb p hpl) hn7 hi2 hi3 (t5_tk h3.2 hpl hi2 (fun k7 hB7 hk7 hs7 => ⟨v148 (i := 14) (by decide), v148 (i := 14) (by decide), fun m8 e8 => t5_change (fun k' c1 c2 c3 c4 => ⟨v148 (i := 14) (by decide), ?_⟩)⟩)) i 0 (by omega)⟩
    rw [c14, hk7 14 (by decide), rn, nI_pred] at e8
    have e0 : k' 0 = upd (k7 0) 14 (nI n) := by rw [c3 0 (by decide), e8, pu_up]
    rw [c14, e0, pu_u]
    refine ⟨rfl, ch_J hF hS (hw.rem hpl hi2) (ded' := ded) ?_ ?_ g1 g2 g3 c1 c2 (fun a h0 h32 => by rw [c3 a h32, e8, pu_upn _ _ _ h0, hs7 a h0]) (fun j i4 i6 => by rw [c4 j i4 i6, e8, pu_upn _ _ _ (by decide), hs7 32 (by decide)])⟩
    · rw [e6]
      refine ⟨⟨?_, ?_, ?_, by omega, D, D8, ?_, fun l hl => hD l (by omega)⟩, ?_, ?_⟩
      · rw [pu_upn _ _ _ (by decide), hs5 0 (by decide) (by decide) (by decide)]; exact y1
      · rw [pu_upn _ _ _ (by decide), hs5 4 (by decide) (by decide) (by decide)]; exact fun l hl => y2 l (by omega)
      · rw [pu_up, pu_u]
      · rw [pu_up, pu_un _ _ (by decide), hs5 8 (by decide) (by decide) (by decide)]; exact eD
      · unfold yB at hB5 ⊢
        rw [pu_upn _ _ _ (by decide), pu_upn _ _ _ (by decide), pu_upn _ _ _ (by decide), pu_upn _ _ _ (by decide)]
        exact hB5
      · rw [pu_up, pu_un _ _ (by decide), hs5 8 (by decide) (by decide) (by decide)]; exact h2.2.2
    · rw [e0]
      refine ⟨⟨fun q hq => ?_, ?_, pu_u _ _ _, by omega, fun l hl => ?_, fun l hl => ?_, r7⟩, fun q hq => ?_⟩
      · rw [pu_un _ _ (by omega), hk7 q (by omega)]; exact r1 q hq
      · rw [pu_un _ _ (by decide), hk7 13 (by decide)]; exact r2
      · rw [pu_un _ _ (by omega), hk7 _ (by omega)]; exact r5 l (by omega)
      · rw [pu_un _ _ (by omega), hk7 _ (by omega)]; exact r6 l (by omega)
      · obtain ⟨b1, b2, b3⟩ := hB7 q hq
        refine ⟨by rw [pu_un _ _ (by omega)]; exact b1, b2, fun j l hl => ?_⟩
        rw [pu_un _ _ (by omega)]
        exact b3 j l hl
end RM
