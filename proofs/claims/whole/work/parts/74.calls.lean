/-! the house's situation, and the planner's calls on it -/
def cR (row : Nat → List Nat) : Nat → List Nat := fun q => if q < 13 then row q else []
section CA
variable {len siz : Nat → Nat} {ded : Nat → Bool} {n ang l p : Nat} {row : Nat → List Nat} {m : Mu}
theorem cR_in {q : Nat} (h : q < 13) : cR row q = row q := if_pos h
theorem wf_cR (h : wf len siz n ang row) : sV len siz n (ang, cR row) := by
  obtain ⟨w1, w2, w3, w4, w5, w6⟩ := h
  refine ⟨⟨fun p hp => ?_, fun p hp => ?_, fun p q l hp hq => ?_, fun l hl => ?_, fun p hp => ?_, w6⟩, fun q hq => if_neg (by omega)⟩
  · show ∀ l ∈ cR row p, l < n
    rw [cR_in hp]; exact w1 p hp
  · show (cR row p).Nodup
    rw [cR_in hp]; exact w2 p hp
  · show l ∈ cR row p → l ∈ cR row q → p = q
    rw [cR_in hp, cR_in hq]; exact w3 p q l hp hq
  · obtain ⟨p, hp, h⟩ := w4 l hl
    exact ⟨p, hp, by show l ∈ cR row p; rw [cR_in hp]; exact h⟩
  · show sm siz (cR row p) ≤ len p
    rw [cR_in hp]; exact w5 p hp
theorem yB_cR (h : yB siz row m) : yB siz (cR row) m := fun p hp => by rw [cR_in hp]; exact h p hp
theorem yA.ids {m m' : Mu} (h : yA len siz ded n m) (e0 : m' 0 = m 0) (e4 : m' 4 = m 4) (e8 : m' 8 = m 8) : yA len siz ded n m' := by
  unfold yA
  rw [e0, e4, e8]; exact h
theorem two_sub : mu_sub (mu_two m 20 10 50) 10 = mu_sub m 50 := by
  funext a
  show cond (Nat.blt (10 + a) 10) (m (20 + (10 + a))) (m (50 + (10 + a - 10))) = m (50 + a)
  have : Nat.blt (10 + a) 10 = false := by
    cases e : Nat.blt (10 + a) 10 with
    | false => rfl
    | true => have := Nat.blt_eq.mp e; omega
  rw [this, Nat.add_sub_cancel_left]
  rfl
theorem t1_aim48 {K : Mu → Prop} (hn : n ≤ 3) (h5 : trk len 12 ≤ 5) (hA : vwA len siz ded n m) (hK : ∀ m', vwA len siz ded n m' → m' 13 9 = nI (12 * cnt (plc len 12).length n) → (∀ a, a ≠ 13 → m' a = m a) → (∀ i, i ≠ 9 → m' 13 i = m 13 i) → jnX1_aimAt_87 K m') : ∀ d i m1, i + d = n → vwA len siz ded n m1 → m1 13 9 = nI (12 * cnt (plc len 12).length i) → (∀ a, a ≠ 13 → m1 a = m a) → (∀ i, i ≠ 9 → m1 13 i = m 13 i) → lpX1_aimAt_48 K (d + 1) (nI i) m1 := by
  intro d
  induction d with
  | zero =>
    intro i m1 hi hA1 h9 s1 s2
    have e : i = n := by omega
    subst e
    unfold lpX1_aimAt_48
    exact pk_le i i (fun _ => hK m1 hA1 h9 s1 s2) (fun z => absurd z (by omega)) (hx := hA1.2.2.2.1)
  | succ d ih =>
    intro i m1 hi hA1 h9 s1 s2
    unfold lpX1_aimAt_48
    refine pk_le n i (fun z => absurd z (by omega)) (fun _ => pk_le 3 i (fun z => absurd z (by omega)) (fun _ => t1_ways hA1.1 plc_ne (by rw [plc_len]; omega) (by omega) (fun m20 e20 x21 e21 => ?_))) (hx := hA1.2.2.2.1)
    rw [h9, pk_mul] at e20
    rw [e21, nI_1]
    have g : ∀ a, a ≠ 13 → m20 a = m1 a := fun a ha => by rw [e20, pu_upn _ _ _ ha]
    have g13 : ∀ i, i ≠ 9 → m20 13 i = m1 13 i := fun i hi => by rw [e20, pu_up, pu_un _ _ hi]
    refine ih (i + 1) m20 (by omega) (hA1.keep (g 1 (by decide)) (g13 8 (by decide)) (g 20 (by decide)) (g 24 (by decide)) (congrFun (g 28 (by decide)) 5) (congrFun (g 28 (by decide)) 6)) ?_ (fun a ha => (g a ha).trans (s1 a ha)) (fun i hi => (g13 i hi).trans (s2 i hi))
    rw [e20, pu_up, pu_u, Nat.mul_assoc]
    rfl
theorem t1_aim17 {K : Mu → Prop} (hs1 : ∀ l, l < n → 1 ≤ siz l) (hs20 : ∀ l, l < n → siz l ≤ 20) (hn : n ≤ 3) (h12 : 0 < len 12) (h5 : trk len 12 ≤ 5) (hp : p < 12) (hl : l < n) (hY : yA len siz ded n (mu_sub m 50)) (hK : ∀ m', cSt len siz ded n l p m' → (∀ a, 50 ≤ a → m' a = m a) → K m') : jnX1_aimAt_17 K (nI l) (nI p) m := by
  intro m3 e3 m4 e4
  have g4 : ∀ a, a ≠ 13 → m4 a = m a := fun a ha => by rw [e4, pu_upn _ _ _ ha, e3, pu_upn _ _ _ ha]
  have g4l : m4 13 11 = nI l := by rw [e4, pu_up, pu_un _ _ (by decide), e3, pu_up, pu_u]
  have g4p : m4 13 12 = nI p := by rw [e4, pu_up, pu_u]
  refine t_copyFrom (fun k5 hE hk m6 e6 => ?_)
  rw [two_sub] at hE
  have hY4 : yA len siz ded n (mu_sub m4 50) := hY.ids (g4 50 (by decide)) (g4 54 (by decide)) (g4 58 (by decide))
  have hY5 := hY4.eq hE
  have v6 : ∀ a, a < 9 → m6 (20 + a) = k5 a := fun a ha => by
    rw [e6, put_out (by omega), put_in ha]
  have o6 : ∀ a, a < 20 ∨ 29 ≤ a → m6 a = m4 a := fun a ha => by
    rw [e6]
    by_cases h : 50 ≤ a ∧ a < 59
    · obtain ⟨x, rfl⟩ : ∃ x, a = 50 + x := ⟨a - 50, by omega⟩
      rw [put_in (by omega)]
      show k5 (10 + x) = _
      rw [hk (10 + x) (by omega)]
      have := congrFun (two_sub (m := m4)) x
      exact this
    · rw [put_out (by omega), put_out (by omega)]
  have hA6 : yA len siz ded n (mu_sub m6 20) := hY5.ids (v6 0 (by decide)) (v6 4 (by decide)) (v6 8 (by decide))
  refine t1_places (len := len) (fun q hq => hA6.1 q hq) h5 (fun k7 hP7 hE7 m8 e8 m9 e9 => ⟨n + 1, ?_⟩)
  have o7 : ∀ a, a ≠ 1 → a ≠ 13 → k7 a = m6 a := hE7.1
  rw [put50 (fun a ha => o7 a (by omega) (by omega))] at e8
  subst e8
  have o9 : ∀ a, a ≠ 13 → m9 a = m8 a := fun a ha => by rw [e9, pu_upn _ _ _ ha]
  have o913 : ∀ i, i ≠ 9 → m9 13 i = m8 13 i := fun i hi => by rw [e9, pu_up, pu_un _ _ hi]
  have hA9 : vwA len siz ded n m9 := ⟨hP7.keep (o9 1 (by decide)) (o913 8 (by decide)), hA6.ids ((o9 20 (by decide)).trans (o7 20 (by decide) (by decide))) ((o9 24 (by decide)).trans (o7 24 (by decide) (by decide))) ((o9 28 (by decide)).trans (o7 28 (by decide) (by decide)))⟩
  have e13 : ∀ i, i ≠ 8 → i ≠ 9 → m9 13 i = m4 13 i := fun i h8 h9 => by rw [o913 i h9, hE7.2 i h8, o6 13 (by decide)]
  refine t1_aim48 hn h5 hA9 (fun m' hA' h9' s1 s2 => ?_) n 0 m9 (by omega) hA9 ?_ (fun _ _ => rfl) (fun _ _ => rfl)
  · refine t1_aim87 hs1 hs20 hn h12 h5 hp hl ?_ ?_ hA' h9' (fun m'' hc hs => hK m'' hc (fun a ha => ?_))
    · rw [s2 11 (by decide), e13 11 (by decide) (by decide)]; exact g4l
    · rw [s2 12 (by decide), e13 12 (by decide) (by decide)]; exact g4p
    · rw [hs a ha, s1 a (by omega), o9 a (by omega), o7 a (by omega) (by omega), o6 a (by omega), g4 a (by omega)]
  · rw [e9, pu_up, pu_u]; rfl
theorem t1_aim {K : Mu → Prop} (hs1 : ∀ l, l < n → 1 ≤ siz l) (hs20 : ∀ l, l < n → siz l ≤ 20) (hn : n ≤ 3) (h12 : 0 < len 12) (h5 : trk len 12 ≤ 5) (hp : p < 12) (hl : l < n) (hY : yA len siz ded n (mu_sub m 50)) (hst : m 13 11 = -11 ∨ ∃ l' p', l' < n ∧ p' < 12 ∧ cSt len siz ded n l' p' m) (hK : ∀ m', cSt len siz ded n l p m' → (∀ a, 50 ≤ a → m' a = m a) → K m') : wX1_aimAt (nI l) (nI p) m K := by
  have hj := t1_aim17 hs1 hs20 hn h12 h5 hp hl hY hK
  refine ⟨fun e1 => ⟨fun e2 => ?_, fun _ => hj⟩, fun _ => hj⟩
  rcases hst with z | ⟨l', p', hl', hp', hc⟩
  · rw [z] at e1
    exact absurd e1 (ne_m11 (by omega))
  · rw [hc.2.1] at e1
    rw [hc.2.2.1] at e2
    have := (nI_eq (by omega) (by omega)).mp e1
    subst this
    have := (nI_eq (by omega) (by omega)).mp e2
    subst this
    exact hK m hc (fun _ _ => rfl)
theorem t1_bestc {K : Int32 → Mu → Prop} (hs1 : ∀ l, l < n → 1 ≤ siz l) (hn : n ≤ 3) (h5 : trk len 12 ≤ 5) (hw : wf len siz n ang row) (hY : stC len siz ded n ang row (mu_sub m 50)) (hst : cSt len siz ded n l p m) (hK : ∀ m' c, fin len siz ded n l p (ang, cR row) c m' → (∀ a, 50 ≤ a → m' a = m a) → K (nI (c (fC len n (ang, cR row)))) m') : wX1_bestCost m K := by
  have hV := wf_cR hw
  refine t1_stateOf_y (row := cR row) (ang := ang) hst.1.1 plc_ne (by rw [plc_len]; omega) plc_13 (yB_cR hY.2.1) hY.1.2.2.1 hn (sV_F hs1 hV) hY.2.2 (fun m2 hS2 => ⟨8065, ?_⟩)
  obtain ⟨h1, h2, h3, c, T, M, hT, hM, lv, h4, h5'⟩ := hst
  have hlS : lS m m2 := hS2.n.l
  refine t1_best_loop (l := l) (p0 := p) (m := m2) (a0 := (ang, cR row)) hV hs1 hn h5 rfl (fun m' c T M hT hM lv hR hSe hA hB hstop => ?_) 8064 0 c T M hT hM lv m2 (by decide) (Nat.zero_le _) h4 (h5'.lS hlS) (h1.lS hlS) bS.rf
  refine hK m' c ⟨hA, ?_, ?_, ⟨T, M, hT, hM, lv, hR, hSe⟩, hstop⟩ (fun a ha => (hB.1 a ha).trans (hS2 a (by omega)))
  · rw [hB.2.1, hlS.b.2.1]; exact h2
  · rw [hB.2.2, hlS.b.2.2]; exact h3
theorem t1_action {K : Int32 → Mu → Prop} {c : Nat → Nat} {R : Int32} {idx : Nat} (hs1 : ∀ l, l < n → 1 ≤ siz l) (hn : n ≤ 3) (h5 : trk len 12 ≤ 5) (hw : wf len siz n ang row) (hY : stC len siz ded n ang row (mu_sub m 50)) (hf : fin len siz ded n l p (ang, cR row) c m) (hb : c (fC len n (ang, cR row)) < 1000000000) (hidx : idx < 2 ^ 31) (r2 : ∀ x, chn len siz ded n l p idx (ang, cR row) x → R = nI x) (r3 : c (fC len n (ang, cR row)) % 10000 ≤ idx → R = -11) (hK : ∀ m', fin len siz ded n l p (ang, cR row) c m' → (∀ a, 50 ≤ a → m' a = m a) → K R m') : wX1_actionAt (nI idx) m K := by
  have hV := wf_cR hw
  refine t1_stateOf_y (row := cR row) (ang := ang) hf.1.1 plc_ne (by rw [plc_len]; omega) plc_13 (yB_cR hY.2.1) hY.1.2.2.1 hn (sV_F hs1 hV) hY.2.2 (fun m2 hS2 => ⟨4033, ?_⟩)
  have hlS : lS m m2 := hS2.n.l
  obtain ⟨T, A, e1, e2, e3⟩ := dD_small hs1 hn h5 hV (hf.d hs1 hV (Nat.le_refl _) hb)
  refine t1_act_loop (m := m2) (a0 := (ang, cR row)) (R := R) hs1 hn h5 hidx hb (fun m' hf' hB' => hK m' hf' (fun a ha => (hB'.1 a ha).trans (hS2 a (by omega)))) 4032 0 (ang, cR row) (-11) m2 (by decide) (hf.lS hlS) bS.rf hV (Nat.le_refl _) (by omega) (by omega) (fun h => absurd h (by omega)) (fun j hj x hx => ?_) (fun _ h => r3 (by omega))
  have : j = idx := by omega
  subst this
  exact r2 x hx
end CA
