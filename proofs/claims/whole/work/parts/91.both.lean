/-! the planners of both, one relation -/
section CH
variable {len siz : Nat → Nat} {ded : Nat → Bool} {n ang l p : Nat} {a : Sit}
theorem chn_lt (hs1 : ∀ l, l < n → 1 ≤ siz l) (hn : n ≤ 3) (h5 : trk len 12 ≤ 5) : ∀ i (a : Sit) x e, chn len siz ded n l p i a x → dD len siz ded n l p e a → i < e % 10000
  | 0, a, x, e, ⟨b, h⟩, hd => by
    obtain ⟨e', h1, h2⟩ := h.2.1
    have := (dD_step (code := x) (a := a) hs1 hn h5 h1).1
    rw [dD_one hd h2, this]; omega
  | i + 1, a, x, e, ⟨code, b, h, hc⟩, hd => by
    obtain ⟨e', h1, h2⟩ := h.2.1
    have := (dD_step (code := code) (a := a) hs1 hn h5 h1).1
    have ih := chn_lt hs1 hn h5 i b x e' hc h1
    rw [dD_one hd h2, this]; omega
theorem chn_ex (hs1 : ∀ l, l < n → 1 ≤ siz l) (hn : n ≤ 3) (h5 : trk len 12 ≤ 5) : ∀ i (a : Sit) e, dD len siz ded n l p e a → i < e % 10000 → ∃ x, chn len siz ded n l p i a x
  | 0, a, e, hd, hi => by
    obtain ⟨code, b, h⟩ := bst_ex hn hd (by omega)
    exact ⟨code, b, h⟩
  | i + 1, a, e, hd, hi => by
    obtain ⟨code, b, h⟩ := bst_ex hn hd (by omega)
    obtain ⟨e', h1, h2⟩ := id h.2.1
    have := (dD_step (code := code) (a := a) hs1 hn h5 h1).1
    rw [dD_one hd h2, this] at hi
    obtain ⟨x, hx⟩ := chn_ex hs1 hn h5 i b e' h1 (by omega)
    exact ⟨x, code, b, h, hx⟩
end CH
section RP
variable {len siz : Nat → Nat} {ded : Nat → Bool} {n ang l p : Nat} {m : Mu} {A : List Nat} {tu ac : Nat → Nat}
theorem t5_plan_loop {K : Int32 → Mu → Prop} {R : Int32} {idx : Nat} (hs1 : ∀ l, l < n → 1 ≤ siz l) (hn : n ≤ 3) (h5 : trk len 12 ≤ 5) (hidx : idx < 2 ^ 31) (hK : ∀ m', loS m m' → K R m') : ∀ d k (a : Sit) code b m1, k + d = idx → sV len siz n a → fR len n a ∈ A → bst len siz ded n l p a code b → d < ac (fR len n a) → rst len siz ded n ang l p A tu ac m1 → loS m m1 → (∀ x, chn len siz ded n l p d a x → R = nI x) → lpX5_plan_79 K (d + 1) (nI idx) (nI (fR len n a)) (nI code) (nI k) m1 := by
  intro d
  induction d with
  | zero =>
    intro k a code b m1 hk hV hA hb hd hst hS hR
    have e : k = idx := by omega
    subst e
    unfold lpX5_plan_79
    refine ⟨fun _ => ?_, fun z => absurd (Int32.le_refl _) z⟩
    rw [← hR code ⟨b, hb⟩]; exact hK m1 hS
  | succ d ih =>
    intro k a code b m1 hk hV hA hb hd hst hS hR
    have hcode : code < 2 ∨ ∃ kd k, isKd kd ∧ 1 ≤ k ∧ k ≤ 3 ∧ code = kd + k := by
      rcases hb.1 with ⟨e, -⟩ | ⟨e, -⟩ | ⟨kd, k, e, h⟩
      · exact Or.inl (by omega)
      · exact Or.inl (by omega)
      · obtain ⟨s1, s2, s3⟩ := sMv_code hV hn h
        exact Or.inr ⟨kd, k, s1, s2, s3, e⟩
    unfold lpX5_plan_79
    refine pk_le idx k (fun z => absurd z (by omega)) (fun _ => ?_)
    refine t5_behind hs1 hn h5 hV hst.2.2 hcode (fun b' m14 hact hS14 => ?_) (fun hno => absurd hb.1 (hno _))
    have e : b' = b := act_one hV hn hb.1 hact
    subst e
    have hVb := act.V hV hact
    have hst14 := hst.lo hS14
    obtain ⟨e', h1, h2⟩ := id hb.2.1
    have hdb := rst.d hst14.1 hs1 hn h5 hVb
    have hbA := hdb.1.mpr ⟨e', h1⟩
    have ea := dD_one h2 ((rst.d hst14.1 hs1 hn h5 hV).2 hA)
    have eb := dD_one h1 (hdb.2 hbA)
    have hstp := (dD_step (code := code) (a := a) hs1 hn h5 h1).1
    obtain ⟨-, ta, aca, -⟩ := hst14.1.1 _ hA
    obtain ⟨-, tb, acb, -⟩ := hst14.1.1 _ hbA
    have hacb : d < ac (fR len n b') := by
      rw [ea, eb] at hstp
      unfold cst at hstp
      omega
    refine t5_best hs1 hn h5 hVb hbA hst14 (fun code2 b2 m16 hb2 hS16 x17 e17 => ?_) (fun hno => ?_)
    · rw [e17, nI_1]
      exact ih (k + 1) b' code2 b2 m16 (by omega) hVb hbA hb2 hacb (hst14.lo hS16) (hS.tr (hS14.tr hS16)) (fun x hx => hR x ⟨code, b', hb, hx⟩)
    · have hpos : 0 < cst tu ac (fR len n b') := by unfold cst; omega
      exact absurd (bst_ex hn (hdb.2 hbA) hpos) hno
/-- what the reference keeps between calls -/
def rSt (len siz : Nat → Nat) (ded : Nat → Bool) (n l p : Nat) (k : Mu) : Prop := ∃ A tu ac, lvF (gR len siz n l p) (eR len siz ded n) A tu ac ∧ dnM A tu ac k ∧ toI n (4 ^ n) k ∧ twI n 15625 k
theorem rSt.keep {k k' : Mu} (h : rSt len siz ded n l p k) (e : ∀ a, 6 ≤ a → a ≠ 32 → k' a = k a) (e32 : ∀ i, 7 ≤ i → k' 32 i = k 32 i) : rSt len siz ded n l p k' := by
  obtain ⟨A, tu, ac, h1, h2, h3, h4⟩ := h
  refine ⟨A, tu, ac, h1, fun s hs => ?_, ?_, ?_⟩
  · rw [e 21 (by decide) (by decide), e 19 (by decide) (by decide), e 20 (by decide) (by decide)]; exact h2 s hs
  · unfold toI
    rw [e 8 (by decide) (by decide), e 9 (by decide) (by decide), e32 7 (by decide)]; exact h3
  · unfold twI
    rw [e 11 (by decide) (by decide), e 12 (by decide) (by decide), e32 10 (by decide)]; exact h4
theorem rst.st (h : rst len siz ded n ang l p A tu ac m) : rSt len siz ded n l p m := ⟨A, tu, ac, h.1, h.2.1, h.2.2.2.2.1, h.2.2.2.2.2⟩
theorem t5_layRows {K : Mu → Prop} (rA : aA len siz ded n ang (m 0)) (h5 : trk len 12 ≤ 5) (hK : ∀ m', lrM len 12 m' → lrE m m' → K m') : wX5_layRows m K := by
  intro m1 e1
  refine ⟨pk_in 0 6 (by decide), fun m2 e2 => ⟨pk_in 12 13 (by decide), fun m3 e3 => ⟨13, ?_⟩⟩⟩
  rw [show ((0 : Int32)).toNatClampNeg = 0 from rfl] at e2
  rw [c12] at e3
  have hE : lrE m m3 := ⟨fun a a14 a15 a32 => by rw [e3, pu_upn _ _ _ a15, e2, pu_upn _ _ _ a14, e1, pu_upn _ _ _ a32], fun i hi => by rw [e3, pu_upn _ _ _ (by decide), e2, pu_upn _ _ _ (by decide), e1, pu_up, pu_un _ _ hi]⟩
  refine t5_layRows_loop rA h5 hK 12 0 m3 (by decide) ⟨?_, fun i x hx => ?_, ?_, fun q hq => absurd hq (by omega)⟩ hE
  · rw [e3, pu_upn _ _ _ (by decide), e2, pu_upn _ _ _ (by decide), e1, pu_up, pu_u]; rfl
  · have hx' : [12][i]? = some x := hx
    have := (List.getElem?_eq_some_iff.mp hx').1
    simp at this
    subst this
    simp at hx'
    rw [e3, pu_upn _ _ _ (by decide), e2, pu_up, pu_u, ← hx']
    rfl
  · rw [e3, pu_up, pu_u]
/-- what a planner's call of the reference leaves as it was -/
def rF (k k' : Mu) : Prop := (∀ a, a < 8 → k' a = k a) ∧ ∀ i, i < 6 → k' 32 i = k 32 i
theorem t5_ready {k : Mu} {K : Mu → Prop} (hs1 : ∀ l, l < n → 1 ≤ siz l) (hn : n ≤ 3) (h12 : 0 < len 12) (h5 : trk len 12 ≤ 5) (hp : p < 12) (hpl : 0 < len p) (hl : l < n) (hA : aA len siz ded n ang (k 0)) (hP : k 32 6 = -11 ∨ ∃ l' p', l' < n ∧ p' < 12 ∧ k 32 6 = nI (12 * l' + p') ∧ rSt len siz ded n l' p' k) (hK : ∀ A tu ac m', rst len siz ded n ang l p A tu ac m' → m' 32 6 = nI (12 * l + p) → rF k m' → K m') : wX5_layRows k (fun m10 : Mu => (((m10 32 6) = nI (12 * l + p) → K m10) ∧ (¬ (m10 32 6) = nI (12 * l + p) → wX5_layAll (nI l) (nI p) m10 (fun m12 : Mu => ∀ m13 : Mu, m13 = mu_up m12 32 6 (nI (12 * l + p)) → K m13)))) := by
  refine t5_layRows hA h5 (fun m10 hlr hE => ?_)
  have e0 : m10 0 = k 0 := hE.1 0 (by decide) (by decide) (by decide)
  have hF : rF k m10 := ⟨fun a ha => hE.1 a (by omega) (by omega) (by omega), fun i hi => hE.2 i (by omega)⟩
  refine ⟨fun e6 => ?_, fun _ => ?_⟩
  · rcases hP with z | ⟨l', p', hl', hp', z, A, tu, ac, q1, q2, q3, q4⟩
    · rw [hE.2 6 (by decide), z] at e6
      exact absurd e6.symm (ne_m11 (by omega))
    · rw [hE.2 6 (by decide), z] at e6
      have := (nI_eq (by omega) (by omega)).mp e6
      have e1 : l' = l := by omega
      have e2 : p' = p := by omega
      subst e1 e2
      refine hK A tu ac m10 ⟨q1, fun s hs => ?_, ⟨by rw [e0]; exact hA, hlr, ?_, ?_⟩⟩ (by rw [hE.2 6 (by decide), z]) hF
      · rw [hE.1 21 (by decide) (by decide) (by decide), hE.1 19 (by decide) (by decide) (by decide), hE.1 20 (by decide) (by decide) (by decide)]; exact q2 s hs
      · unfold toI
        rw [hE.1 8 (by decide) (by decide) (by decide), hE.1 9 (by decide) (by decide) (by decide), hE.2 7 (by decide)]; exact q3
      · unfold twI
        rw [hE.1 11 (by decide) (by decide) (by decide), hE.1 12 (by decide) (by decide) (by decide), hE.2 10 (by decide)]; exact q4
  · refine t5_layAll hs1 hn h12 h5 hp hpl hl (by rw [e0]; exact hA) hlr (fun A tu ac m12 g1 g2 g3 g4 m13 e13 => ?_)
    have g : ∀ a, a ≠ 32 → m13 a = m12 a := fun a ha => by rw [e13, pu_upn _ _ _ ha]
    have g32 : ∀ i, i ≠ 6 → m13 32 i = m12 32 i := fun i hi => by rw [e13, pu_up, pu_un _ _ hi]
    refine hK A tu ac m13 ⟨g1, fun s hs => ?_, g3.keep (fun a ha => g a (by omega)) (g32 7 (by decide)) (g32 10 (by decide)) (g32 13 (by decide))⟩ (by rw [e13, pu_up, pu_u]) ⟨fun a ha => ?_, fun i hi => ?_⟩
    · rw [g 21 (by decide), g 19 (by decide), g 20 (by decide)]; exact g2 s hs
    · rw [g a (by omega), g4.1 a ha]; exact hF.1 a ha
    · rw [g32 i (by omega), g4.2 i (by omega)]; exact hF.2 i hi
end RP
/-- the planners' part of the relation -/
def PP (hp : Bool) (len siz : Nat → Nat) (ded : Nat → Bool) (n : Nat) (q k : Mu) : Prop := (hp = false ∨ q 13 11 = -11 ∨ ∃ l p, l < n ∧ p < 12 ∧ cSt len siz ded n l p q) ∧ (k 32 6 = -11 ∨ ∃ l p, l < n ∧ p < 12 ∧ k 32 6 = nI (12 * l + p) ∧ rSt len siz ded n l p k)
theorem PP_K : pK PP := by
  intro hp len siz ded n q k k' e e32 ⟨h1, h2⟩
  refine ⟨h1, ?_⟩
  rcases h2 with z | ⟨l, p, hl, hp', z, h⟩
  · exact Or.inl (by rw [e32 6 (by decide)]; exact z)
  · exact Or.inr ⟨l, p, hl, hp', by rw [e32 6 (by decide)]; exact z, h.keep e (fun i hi => e32 i (by omega))⟩
theorem PP_F : pF PP := by
  intro hp len siz ded n q k len' siz' ded' n' q' k' h hq1 hq2 e e32 e6
  refine ⟨?_, Or.inl e6⟩
  cases hp with
  | false => exact Or.inl rfl
  | true => exact Or.inr (Or.inl (by rw [hq1 rfl, pu_up, pu_u]))
