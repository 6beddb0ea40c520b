/-! the reference lays a situation out, and numbers it -/
def rR (R : Nat → List Nat) (m : Mu) : Prop := ∀ r, r < 6 → m 17 r = nI (R r).length ∧ (R r).length ≤ 4 ∧ ∀ (k x : Nat), (R r)[k]? = some x → m 16 (4 * r + k) = nI x
def loS (m m' : Mu) : Prop := (∀ a, a ≠ 16 → a ≠ 17 → a ≠ 32 → m' a = m a) ∧ ∀ i, i ≠ 18 → m' 32 i = m 32 i
theorem loS.rf {m : Mu} : loS m m := ⟨fun _ _ _ _ => rfl, fun _ _ => rfl⟩
theorem loS.tr {m m' m'' : Mu} (h : loS m m') (h2 : loS m' m'') : loS m m'' := ⟨fun a h1 h3 h4 => (h2.1 a h1 h3 h4).trans (h.1 a h1 h3 h4), fun i hi => (h2.2 i hi).trans (h.2 i hi)⟩
section LO
variable {m : Mu} {n : Nat}
def rD (C D : List Nat) (r : Nat) (m : Mu) : Prop := ∀ r', r' < r → m 17 r' = nI (sg C D r').length ∧ ∀ (k x : Nat), (sg C D r')[k]? = some x → m 16 (4 * r' + k) = nI x
theorem t5_lo_59 {K : Mu → Prop} {X0 : Int32 → Int32 → Int32 → Int32 → Mu → Prop} {C D : List Nat} {o w r dr : Nat} (hD : D[r]? = some dr) (hr : r < 6) (hd4 : dr ≤ 4) (hsum : D.sum ≤ C.length) (hC3 : C.length ≤ 3) (ho : o < 6) (hD5 : ∀ x ∈ D, x ≤ 4) (hC : ∀ (k x : Nat), C[k]? = some x → m 8 (4 * o + k) = nI x) (h17 : m 17 r = nI dr) (hdone : rD C D r m) (hX : ∀ m', rD C D (r + 1) m' → (∀ a, a ≠ 16 → m' a = m a) → X0 (nI w) (nI o) (nI (D.take (r + 1)).sum) (nI (r + 1)) m') : ∀ d k m1, k + d = dr → (∀ a, a ≠ 16 → m1 a = m a) → (∀ q, q < 4 * r → m1 16 q = m 16 q) → (∀ (j x : Nat), j < k → (sg C D r)[j]? = some x → m1 16 (4 * r + j) = nI x) → lpX5_layOut_59 K X0 (d + 1) (nI w) (nI o) (nI ((D.take r).sum + k)) (nI r) (nI k) m1 := by
  have hS := sum_takeS hD
  have hS2 := sum_take_le D (r + 1)
  intro d
  induction d with
  | zero =>
    intro k m1 hk s1 s2 s3
    have e : k = dr := by omega
    subst e
    unfold lpX5_layOut_59
    rw [nI_clamp (by omega), s1 17 (by decide), h17]
    refine ⟨pk_in r 6 hr, pk_le k k (fun _ x7 e7 => ?_) (fun z => absurd z (by omega))⟩
    rw [e7, nI_1, ← hS]
    refine hX m1 (fun r' hr' => ?_) s1
    by_cases e : r' = r
    · subst e
      rw [s1 17 (by decide), h17, sg_len hD hsum]
      refine ⟨rfl, fun j x hx => s3 j x ?_ hx⟩
      have := (List.getElem?_eq_some_iff.mp hx).1
      rw [sg_len hD hsum] at this
      exact this
    · obtain ⟨g1, g2⟩ := hdone r' (by omega)
      rw [s1 17 (by decide)]
      refine ⟨g1, fun j x hx => ?_⟩
      have hj := (List.getElem?_eq_some_iff.mp hx).1
      have h4 : (sg C D r').length ≤ 4 := by
        unfold sg
        rw [List.length_take]
        have : D.getD r' 0 ≤ 4 := by
          cases h : D[r']? with
          | none => simp [List.getD, h]
          | some y => rw [getD_of h]; exact hD5 y (List.mem_of_getElem? h)
        omega
      rw [s2 _ (by omega)]
      exact g2 j x hx
  | succ d ih =>
    intro k m1 hk s1 s2 s3
    have hg := sg_get (C := C) hD (show k < dr by omega)
    have hlt : (D.take r).sum + k < C.length := by omega
    have hx := List.getElem?_eq_getElem hlt
    rw [hx] at hg
    unfold lpX5_layOut_59
    rw [nI_clamp (by omega), s1 17 (by decide), h17, show (4 : Int32) = nI 4 from rfl, pk_mul, pk_mul, nI_add, nI_add]
    refine ⟨pk_in r 6 hr, pk_le dr k (fun z => absurd z (by omega)) (fun _ => ⟨pk_in (4 * o + ((D.take r).sum + k)) 24 (by omega), pk_in (4 * r + k) 24 (by omega), fun m8 e8 x9 e9 x10 e10 => ?_⟩)⟩
    rw [nI_clamp (by omega), nI_clamp (by omega), s1 8 (by decide), hC _ _ hx] at e8
    rw [e9, e10, nI_1, nI_1]
    refine ih (k + 1) m8 (by omega) (fun a ha => ?_) (fun q hq => ?_) (fun j x hj hjx => ?_)
    · rw [e8, pu_upn _ _ _ ha]; exact s1 a ha
    · rw [e8, pu_up, pu_un _ _ (by omega)]; exact s2 q hq
    · rw [e8, pu_up]
      by_cases e : j = k
      · subst e
        rw [hg] at hjx
        cases hjx
        rw [pu_u]
      · rw [pu_un _ _ (by omega)]; exact s3 j x (by omega) hjx
theorem t5_lo_30 {K : Mu → Prop} {C D : List Nat} {o w : Nat} (hD6 : D.length = 6) (hsum : D.sum ≤ C.length) (hC3 : C.length ≤ 3) (ho : o < 6) (hw : w < 56) (hD5 : ∀ x ∈ D, x ≤ 4) (hC : ∀ (k x : Nat), C[k]? = some x → m 8 (4 * o + k) = nI x) (hD : ∀ (k x : Nat), D[k]? = some x → m 11 (6 * w + k) = nI x) (hK : ∀ m', rD C D 6 m' → (∀ a, a ≠ 16 → a ≠ 17 → m' a = m a) → K m') : ∀ d r m1, r + d = 6 → rD C D r m1 → (∀ a, a ≠ 16 → a ≠ 17 → m1 a = m a) → lpX5_layOut_30 K (d + 1) (nI w) (nI o) (nI (D.take r).sum) (nI r) m1 := by
  intro d
  induction d with
  | zero =>
    intro r m1 hr hd s1
    have e : r = 6 := by omega
    subst e
    unfold lpX5_layOut_30
    exact pk_le 6 6 (fun _ => hK m1 hd s1) (fun z => absurd z (by omega))
  | succ d ih =>
    intro r m1 hr hd s1
    have hx := List.getElem?_eq_getElem (show r < D.length by omega)
    have h4 := hD5 _ (List.getElem_mem (show r < D.length by omega))
    unfold lpX5_layOut_30
    rw [nI_clamp (by omega), show (6 : Int32) = nI 6 from rfl, pk_mul, nI_add]
    refine pk_le 6 r (fun z => absurd z (by omega)) (fun _ => ⟨pk_in (6 * w + r) 336 (by omega), pk_in r 6 (by omega), fun m5 e5 => ⟨D[r] + 1, ?_⟩⟩)
    rw [nI_clamp (by omega), s1 11 (by decide) (by decide), hD r _ hx] at e5
    have g : ∀ a, a ≠ 17 → m5 a = m1 a := fun a ha => by rw [e5, pu_upn _ _ _ ha]
    refine t5_lo_59 (m := m5) (C := C) (D := D) (dr := D[r]) hx (by omega) h4 hsum hC3 ho hD5 (fun k x hk => ?_) (by rw [e5, pu_up, pu_u]) (fun r' hr' => ?_) (fun m' hd' s' => ih (r + 1) m' (by omega) hd' (fun a a16 a17 => ?_)) D[r] 0 m5 (by omega) (fun _ _ => rfl) (fun _ _ => rfl) (fun j x hj => absurd hj (by omega))
    · rw [g 8 (by decide), s1 8 (by decide) (by decide)]; exact hC k x hk
    · rw [g 16 (by decide), e5, pu_up, pu_un _ _ (by omega)]; exact hd r' hr'
    · rw [s' a a16, g a a17]; exact s1 a a16 a17
theorem t5_layOut {K : Mu → Prop} {c wc ang : Nat} (hn : n ≤ 3) (hto : toI n (4 ^ n) m) (htw : twI n 15625 m) (hc : c < 4 ^ n) (hv : vo n c = true) (hwc : wc < 15625) (hvw : vw n wc = true) (ha : ang < 12) (hK : ∀ m', rR (sg (dl 4 n c) (dl 5 6 wc)) m' → m' 32 18 = nI ang → loS m m' → K m') : wX5_layOut (nI ((fb_ct (vo n) c * 56 + fb_ct (vw n) wc) * 12 + ang)) m K := by
  have h1 := ct_lt hv hc
  have h2 := vo_bound n (by omega)
  have h3 := ct_lt hvw hwc
  have h4 := vw_bound hn
  have hsum := vw_iff.mp hvw
  intro m1 e1 x2 e2 x3 e3
  generalize hs : (fb_ct (vo n) c * 56 + fb_ct (vw n) wc) * 12 + ang = s at e1 e2 e3
  rw [rem12 (by omega), show s % 12 = ang by omega] at e1
  rw [show (12 : Int32) = nI 12 from rfl, pk_div (by omega) (by decide) (by decide), show (56 : Int32) = nI 56 from rfl] at e2 e3
  rw [rem_nI (by omega) (by decide) (by decide), show s / 12 % 56 = fb_ct (vw n) wc by omega] at e2
  rw [pk_div (by omega) (by decide) (by decide), show s / 12 / 56 = fb_ct (vo n) c by omega] at e3
  rw [e2, e3]
  have g : ∀ a, a ≠ 32 → m1 a = m a := fun a h => by rw [e1, pu_upn _ _ _ h]
  refine ⟨7, ?_⟩
  refine t5_lo_30 (m := m1) (C := dl 4 n c) (D := dl 5 6 wc) (dl_len _ _) (by rw [hsum, dl_len]; exact Nat.le_refl _) (by rw [dl_len]; exact hn) (by omega) (by omega) (fun x hx => by have := dl_lt (b := 5) (by decide) _ _ x hx; omega) (fun k x hk => ?_) (fun k x hk => ?_) (fun m' hd s' => hK m' (fun r hr => ?_) ?_ ⟨fun a a16 a17 a32 => ?_, fun i hi => ?_⟩) 6 0 m1 (by decide) (fun r' hr' => absurd hr' (by omega)) (fun _ _ _ => rfl)
  · rw [g 8 (by decide)]; exact (hto.2 c hc hv).2 k x hk
  · rw [g 11 (by decide)]; exact (htw.2 wc hwc hvw).2 k x hk
  · have hx := List.getElem?_eq_getElem (show r < (dl 5 6 wc).length by rw [dl_len]; exact hr)
    have h5 := dl_lt (b := 5) (by decide) _ _ _ (List.getElem_mem (show r < (dl 5 6 wc).length by rw [dl_len]; exact hr))
    refine ⟨(hd r hr).1, ?_, (hd r hr).2⟩
    rw [sg_len hx (by rw [hsum, dl_len]; exact Nat.le_refl _)]
    omega
  · rw [s' 32 (by decide) (by decide), e1, pu_up, pu_u]
  · rw [s' a a16 a17, g a a32]
  · rw [s' 32 (by decide) (by decide), e1, pu_up, pu_un _ _ hi]
theorem t5_no_22 {K : Int32 → Prop} {X0 : Int32 → Int32 → Int32 → Int32 → Int32 → Prop} {R : Nat → List Nat} {r : Nat} (hR : rR R m) (hr : r < 6) (hX : X0 (nI (cdg 4 (pre R (r + 1)))) (nI (4 ^ (pre R (r + 1)).length)) (nI (cdg 5 (dls R (r + 1)))) (nI (5 ^ (r + 1))) (nI (r + 1))) : ∀ d k, k + d = (R r).length → lpX5_numberOf_22 m K X0 (d + 1) (nI (cdg 4 (pre R r ++ (R r).take k))) (nI (4 ^ (pre R r ++ (R r).take k).length)) (nI (cdg 5 (dls R r))) (nI (5 ^ r)) (nI r) (nI k) := by
  obtain ⟨r1, r2, r3⟩ := hR r hr
  intro d
  induction d with
  | zero =>
    intro k hk
    have e : k = (R r).length := by omega
    subst e
    unfold lpX5_numberOf_22
    rw [nI_clamp (by omega), r1]
    refine ⟨pk_in r 6 hr, pk_le (R r).length (R r).length (fun _ => ⟨pk_in r 6 hr, fun x3 e3 x4 e4 x5 e5 => ?_⟩) (fun z => absurd z (by omega))⟩
    rw [e3, e4, e5, nI_1, show (5 : Int32) = nI 5 from rfl, pk_mul, pk_mul, nI_add, List.take_length]
    have c5 := cdg_snoc (b := 5) (dls R r) (R r).length
    rw [dls_len] at c5
    rw [show cdg 5 (dls R r) + 5 ^ r * (R r).length = cdg 5 (dls R (r + 1)) from c5.symm, ← Nat.pow_succ]
    exact hX
  | succ d ih =>
    intro k hk
    have hx := List.getElem?_eq_getElem (show k < (R r).length by omega)
    unfold lpX5_numberOf_22
    rw [nI_clamp (by omega), r1, show (4 : Int32) = nI 4 from rfl, pk_mul 4 r, nI_add, nI_clamp (by omega), r3 k _ hx]
    refine ⟨pk_in r 6 hr, pk_le (R r).length k (fun z => absurd z (by omega)) (fun _ => ⟨pk_in (4 * r + k) 24 (by omega), fun x6 e6 x7 e7 x8 e8 => ?_⟩)⟩
    have et : pre R r ++ (R r).take (k + 1) = (pre R r ++ (R r).take k) ++ [(R r)[k]] := by rw [take_snoc hx, List.append_assoc]
    rw [e6, e7, e8, nI_1, pk_mul, pk_mul, nI_add, ← cdg_snoc, ← Nat.pow_succ, ← et]
    have := ih (k + 1) (by omega)
    rw [show (pre R r ++ (R r).take (k + 1)).length = (pre R r ++ (R r).take k).length + 1 by rw [et, List.length_append]; rfl] at this
    exact this
theorem t5_no_12 {K : Int32 → Prop} {R : Nat → List Nat} {ang : Nat} (hn : n ≤ 3) (hR : rR R m) (hto : toI n (4 ^ n) m) (htw : twI n 15625 m) (hc : cdg 4 (pre R 6) < 4 ^ n) (hv : vo n (cdg 4 (pre R 6)) = true) (hwc : cdg 5 (dls R 6) < 15625) (hvw : vw n (cdg 5 (dls R 6)) = true) (ha : m 32 18 = nI ang) (hK : K (nI ((fb_ct (vo n) (cdg 4 (pre R 6)) * 56 + fb_ct (vw n) (cdg 5 (dls R 6))) * 12 + ang))) : ∀ d r, r + d = 6 → lpX5_numberOf_12 m K (d + 1) (nI (cdg 4 (pre R r))) (nI (4 ^ (pre R r).length)) (nI (cdg 5 (dls R r))) (nI (5 ^ r)) (nI r) := by
  have h64 : 4 ^ n ≤ 64 := Nat.pow_le_pow_right (by decide) hn
  intro d
  induction d with
  | zero =>
    intro r hr
    have e : r = 6 := by omega
    subst e
    unfold lpX5_numberOf_12
    rw [nI_clamp (by omega), nI_clamp (by omega), (hto.2 _ hc hv).1, (htw.2 _ hwc hvw).1, ha, show (56 : Int32) = nI 56 from rfl, show (12 : Int32) = nI 12 from rfl, pk_mul, nI_add, pk_mul, nI_add]
    exact pk_le 6 6 (fun _ => ⟨pk_in _ 64 (show cdg 4 (pre R 6) < 64 by omega), pk_in _ 15625 hwc, hK⟩) (fun z => absurd z (by omega))
  | succ d ih =>
    intro r hr
    unfold lpX5_numberOf_12
    refine pk_le 6 r (fun z => absurd z (by omega)) (fun _ => ⟨(R r).length + 1, ?_⟩)
    have := t5_no_22 (K := K) (X0 := fun a0 a1 a2 a3 a4 => lpX5_numberOf_12 m K (d + 1) a0 a1 a2 a3 a4) hR (show r < 6 by omega) (ih (r + 1) (by omega)) (R r).length 0 (by omega)
    simpa [nI_0] using this
theorem t5_numberOf {K : Int32 → Prop} {R : Nat → List Nat} {ang : Nat} (hn : n ≤ 3) (hR : rR R m) (hto : toI n (4 ^ n) m) (htw : twI n 15625 m) (hc : cdg 4 (pre R 6) < 4 ^ n) (hv : vo n (cdg 4 (pre R 6)) = true) (hwc : cdg 5 (dls R 6) < 15625) (hvw : vw n (cdg 5 (dls R 6)) = true) (ha : m 32 18 = nI ang) (hK : K (nI ((fb_ct (vo n) (cdg 4 (pre R 6)) * 56 + fb_ct (vw n) (cdg 5 (dls R 6))) * 12 + ang))) : wX5_numberOf m K :=
  ⟨7, t5_no_12 hn hR hto htw hc hv hwc hvw ha hK 6 0 (by decide)⟩
end LO
