/-! fewestTurns and plan -/
theorem cat_lo {q y : Mu} {a : Nat} (h : a < 50) : mu_cat q 50 y a = q a := by
  unfold mu_cat
  rw [Nat.blt_eq.mpr h]
  rfl
theorem cat_hi {q y : Mu} {a : Nat} (h : 50 ≤ a) : mu_cat q 50 y a = y (a - 50) := by
  unfold mu_cat
  have : Nat.blt a 50 = false := by
    cases e : Nat.blt a 50 with
    | false => rfl
    | true => have := Nat.blt_eq.mp e; omega
  rw [this]
  rfl
theorem cat_sub {q y : Mu} : mu_sub (mu_cat q 50 y) 50 = y := by
  funext a
  show mu_cat q 50 y (50 + a) = y a
  rw [cat_hi (by omega), Nat.add_sub_cancel_left]
theorem cat_self {k : Mu} : mu_cat k 50 (mu_sub k 50) = k := by
  funext a
  by_cases h : a < 50
  · exact cat_lo h
  · rw [cat_hi (by omega)]
    show k (50 + (a - 50)) = k a
    rw [show 50 + (a - 50) = a by omega]
section OP
variable {hp s0 s1 : Bool} {m : HM} {k : Mu} {len siz : Nat → Nat} {ded : Nat → Bool} {n ang l p : Nat} {row : Nat → List Nat} {L : List Nat}
theorem t4_ready {K : HM → Prop} (hcl : hp = false ∨ m.2.2.2.1 13 11 = -11 ∨ ∃ l p, l < n ∧ p < 12 ∧ cSt len siz ded n l p m.2.2.2.1) (hK : ∀ q, (q 13 11 = -11 ∨ ∃ l p, l < n ∧ p < 12 ∧ cSt len siz ded n l p q) → K (m.1, m.2.1, m.2.2.1, q, m.2.2.2.2)) : wX4_readyPlanner hp s0 s1 m K := by
  have hnew : (mu_set (mu_set (fun _ _ => 0) 20 (upd (fun _ => 0) 12 30)) 13 (upd (upd (fun _ => 0) 11 (-11)) 12 (-11)) : Mu) 13 11 = -11 := by
    rw [pu_same, pu_un _ _ (by decide), pu_u]
  refine ⟨fun e => ?_, fun _ => ⟨fun _ => ⟨fun _ m1 e1 => ?_, fun _ m1 e1 => ?_⟩, fun _ => ⟨fun _ m1 e1 => ?_, fun _ m1 e1 => ?_⟩⟩⟩
  · rcases hcl with z | z
    · rw [z] at e; exact absurd e (by decide)
    · exact hK m.2.2.2.1 z
  · rw [e1]; exact hK _ (Or.inl hnew)
  · rw [e1]; exact hK _ (Or.inl hnew)
  · rw [e1]; exact hK _ (Or.inl hnew)
  · rw [e1]; exact hK _ (Or.inl hnew)
theorem t4_pre {Q : Int32 → HM → Prop} (hn : n ≤ 3) (h5 : trk len 12 ≤ 5) (hp12 : p < 12) (hl : l < n) (hw : wf len siz n ang row) (hC : stC len siz ded n ang row m.2.1) (hcl : hp = false ∨ m.2.2.2.1 13 11 = -11 ∨ ∃ l p, l < n ∧ p < 12 ∧ cSt len siz ded n l p m.2.2.2.1) (hQ : ∀ k6 c, fin len siz ded n l p (ang, cR row) c k6 → mu_sub k6 50 = m.2.1 → Q (nI (c (fC len n (ang, cR row)))) (m.1, m.2.1, m.2.2.1, k6, m.2.2.2.2.1, m.2.2.2.2.2)) : wX4_readyPlanner hp s0 s1 m (fun m3 : HM => wX1_aimAt (nI l) (nI p) (mu_cat m3.2.2.2.1 50 m3.2.1) (fun k4 : Mu => ∀ m5 : HM, m5 = (m3.1, (mu_sub k4 50), m3.2.2.1, k4, m3.2.2.2.2.1, m3.2.2.2.2.2) → wX1_bestCost (mu_cat m5.2.2.2.1 50 m5.2.1) (fun (r8 : Int32) (k6 : Mu) => ∀ m7 : HM, m7 = (m5.1, (mu_sub k6 50), m5.2.2.1, k6, m5.2.2.2.2.1, m5.2.2.2.2.2) → Q r8 m7))) := by
  have hs1 : ∀ l, l < n → 1 ≤ siz l := fun l hl => (hC.1.2.1 l hl).2.1
  have hs20 : ∀ l, l < n → siz l ≤ 20 := fun l hl => (hC.1.2.1 l hl).2.2
  have h12 : 0 < len 12 := hw.2.2.2.2.2.2.2
  refine t4_ready hcl (fun q hq => ?_)
  have hY : mu_sub (mu_cat q 50 m.2.1) 50 = m.2.1 := cat_sub
  refine t1_aim hs1 hs20 hn h12 h5 hp12 hl (by show yA len siz ded n (mu_sub (mu_cat q 50 m.2.1) 50); rw [hY]; exact hC.1) ?_ (fun k4 hst4 hk4 m5 e5 => ?_)
  · show mu_cat q 50 m.2.1 13 11 = -11 ∨ ∃ l' p', l' < n ∧ p' < 12 ∧ cSt len siz ded n l' p' (mu_cat q 50 m.2.1)
    rcases hq with z | ⟨l', p', x1, x2, x3⟩
    · exact Or.inl (by rw [cat_lo (by decide)]; exact z)
    · exact Or.inr ⟨l', p', x1, x2, x3.keep (fun a ha => cat_lo ha)⟩
  · have hY4 : mu_sub k4 50 = m.2.1 := by
      rw [← hY]
      funext a
      exact hk4 (50 + a) (by omega)
    subst e5
    show wX1_bestCost (mu_cat k4 50 (mu_sub k4 50)) _
    rw [cat_self]
    refine t1_bestc hs1 hn h5 hw (by rw [hY4]; exact hC) hst4 (fun k6 c hf hk6 m7 e7 => ?_)
    have hY6 : mu_sub k6 50 = m.2.1 := by
      rw [← hY4]
      funext a
      exact hk6 (50 + a) (by omega)
    rw [e7]
    show Q _ (m.1, mu_sub k6 50, m.2.2.1, k6, m.2.2.2.2.1, m.2.2.2.2.2)
    rw [hY6]
    exact hQ k6 c hf hY6
/-- the relation after a planner's call -/
theorem JS_plan {k1 : Mu} {q : Mu} {hp' : Bool} (hJ : JS PP len siz ded n ang row L hp s0 s1 m k) (hl : l < n) (hp12 : p < 12) (hq : cSt len siz ded n l p q) (hk : rSt len siz ded n l p k1) (h6 : k1 32 6 = nI (12 * l + p)) (hF : rF k k1) : JP PP hp' s0 s1 (m.1, m.2.1, m.2.2.1, q, m.2.2.2.2.1, m.2.2.2.2.2) k1 := by
  obtain ⟨j1, j2, j3, ⟨g1, g2, g3, g4⟩, j5, j6, j7, j8, j9⟩ := hJ
  refine ⟨len, siz, ded, n, ang, row, L, j1, j2, ?_, ⟨g1, g2, ?_, fun i c hc => ?_⟩, j5, ?_, j7.keep (hF.1 1 (by decide)) (hF.1 2 (by decide)), j8.keep (hF.1 1 (by decide)) (hF.1 2 (by decide)), Or.inr (Or.inr ⟨l, p, hl, hp12, hq⟩), Or.inr ⟨l, p, hl, hp12, h6, hk⟩⟩
  · rw [hF.1 0 (by decide)]; exact j3
  · rw [hF.2 4 (by decide)]; exact g3
  · rw [hF.1 5 (by decide)]; exact g4 i c hc
  · show m.1 = k1 32 3
    rw [hF.2 3 (by decide)]; exact j6
theorem rF.lo {k k' k'' : Mu} (h : rF k k') (e : loS k' k'') : rF k k'' := ⟨fun a ha => by rw [e.1 a (by omega) (by omega) (by omega)]; exact h.1 a ha, fun i hi => by rw [e.2 i (by omega)]; exact h.2 i hi⟩
theorem aB_cR {f : Nat → Int32} (h : aB row f) : aB (cR row) f := fun p hp => by rw [cR_in hp]; exact h p hp
theorem o_17 (hJ : JP PP hp s0 s1 m k) (a1 a2 : Int32) : ok_17 (JP PP) a1 a2 hp s0 s1 m k := by
  obtain ⟨len, siz, ded, n, ang, row, L, hJS⟩ := id hJ
  obtain ⟨j1, j2, j3, j4, j5, j6, j7, j8, j9⟩ := id hJS
  rcases plan_split (hp := hp) (s0 := s0) (s1 := s1) j1 j2 j3 a1 a2 with ⟨e, he, h4, h5⟩ | ⟨l, p, hl, hp12, rfl, rfl, hpl, hn, ht5, h4, hr⟩
  · unfold ok_17 wX4_fewestTurns
    refine h4 _ ?_
    refine ⟨fun z => absurd z he, fun _ => ?_⟩
    unfold wX5_fewestTurns
    refine h5 _ ?_
    exact ⟨fun z => absurd z he, fun _ => ⟨rfl, hJ⟩⟩
  · have hs1 : ∀ l, l < n → 1 ≤ siz l := fun l hl => (j2.1.2.1 l hl).2.1
    have hV := wf_cR j1
    unfold ok_17 wX4_fewestTurns
    refine h4 _ ?_
    refine ⟨fun _ => ?_, fun z => absurd rfl z⟩
    refine t4_pre hn ht5 hp12 hl j1 j2 j9.1 (fun k6 c hf hY6 => ?_)
    have tail : ∀ (x : Int32), (∀ A tu ac, lvF (gR len siz n l p) (eR len siz ded n) A tu ac → (fR len n (ang, cR row) ∉ A → x = -11) ∧ (fR len n (ang, cR row) ∈ A → x = nI (tu (fR len n (ang, cR row))))) → wX5_fewestTurns (nI l) (nI p) k (fun y k1 => x = y ∧ JP PP true s0 s1 (m.1, m.2.1, m.2.2.1, k6, m.2.2.2.2.1, m.2.2.2.2.2) k1) := fun x hx => by
      unfold wX5_fewestTurns
      refine hr _ ?_
      refine t5_ready (K := fun m2 => _) hs1 hn j1.2.2.2.2.2.2.2 ht5 hp12 hpl hl j3.1 j9.2 (fun A tu ac m2 hst h6 hF => ⟨fun _ => ?_, fun z => absurd rfl z⟩)
      have e0 : m2 0 = k 0 := hF.1 0 (by decide)
      refine t5_now (a := (ang, cR row)) hn ht5 hs1 hV hst.2.2 (by rw [e0]; exact aB_cR j3.2) (fun m5 hS5 => ?_)
      have hst5 := hst.lo hS5
      have hfa := fR_lt hs1 hn ht5 hV
      have hat := hst5.2.1.at hfa
      have hJ5 := JS_plan (hp' := true) (k1 := m5) hJS hl hp12 hf.st hst5.st (by rw [hS5.2 6 (by decide)]; exact h6) (hF.lo hS5)
      rw [nI_clamp (by omega)]
      refine ⟨pk_in _ 4032 hfa, fun z => ⟨(hx A tu ac hst.1).1 (hat.1.mp z), hJ5⟩, fun z => ⟨pk_in _ 4032 hfa, ?_, hJ5⟩⟩
      have hA : fR len n (ang, cR row) ∈ A := by
        cases Decidable.em (fR len n (ang, cR row) ∈ A) with
        | inl q => exact q
        | inr q => exact absurd (hat.1.mpr q) z
      rw [(hat.2 hA).1]
      exact (hx A tu ac hst.1).2 hA
    have c9 : c (fC len n (ang, cR row)) ≤ 1000000000 := by
      obtain ⟨kk, hco⟩ := hf.co
      exact hco.2.1 _
    refine pk_eq (c (fC len n (ang, cR row))) 1000000000 (fun e => ?_) (fun e => ?_)
    · refine tail (-11) (fun A tu ac hlv => ⟨fun _ => rfl, fun hA => ?_⟩)
      exact absurd ((rst.d hlv hs1 hn ht5 hV).1.mp hA) (hf.no hs1 hn ht5 hV (by omega))
    · have hd := hf.d hs1 hV (Nat.le_refl _) (by omega)
      rw [show (10000 : Int32) = nI 10000 from rfl, pk_div (by omega) (by decide) (by decide)]
      refine tail _ (fun A tu ac hlv => ⟨fun hA => absurd ((rst.d hlv hs1 hn ht5 hV).1.mpr ⟨_, hd⟩) hA, fun hA => ?_⟩)
      have := dD_one hd ((rst.d hlv hs1 hn ht5 hV).2 hA)
      have b := (hlv.1 _ hA).2.2.1
      unfold cst at this
      congr 1
      omega
theorem o_18 (hJ : JP PP hp s0 s1 m k) (a1 a2 a3 : Int32) : ok_18 (JP PP) a1 a2 a3 hp s0 s1 m k := by
  obtain ⟨len, siz, ded, n, ang, row, L, hJS⟩ := id hJ
  obtain ⟨j1, j2, j3, j4, j5, j6, j7, j8, j9⟩ := id hJS
  rcases plan_split (hp := hp) (s0 := s0) (s1 := s1) j1 j2 j3 a1 a2 with ⟨e, he, h4, h5⟩ | ⟨l, p, hl, hp12, rfl, rfl, hpl, hn, ht5, h4, hr⟩
  · unfold ok_18 wX4_plan
    refine h4 _ ?_
    refine ⟨fun z => absurd z he, fun _ => ?_⟩
    unfold wX5_plan
    refine h5 _ ?_
    exact ⟨fun z => absurd z he, fun _ => ⟨rfl, hJ⟩⟩
  · have hs1 : ∀ l, l < n → 1 ≤ siz l := fun l hl => (j2.1.2.1 l hl).2.1
    have hV := wf_cR j1
    have hfa := fR_lt hs1 hn ht5 hV
    unfold ok_18 wX4_plan
    refine h4 _ ?_
    refine ⟨fun _ => ?_, fun z => absurd rfl z⟩
    refine t4_pre hn ht5 hp12 hl j1 j2 j9.1 (fun k6 c hf hY6 => ?_)
    have tail : ∀ (q : Mu) (x : Int32), cSt len siz ded n l p q → (∀ A tu ac, lvF (gR len siz n l p) (eR len siz ded n) A tu ac → (fR len n (ang, cR row) ∉ A → x = -11) ∧ (fR len n (ang, cR row) ∈ A → (a3 = -1 → x = nI (ac (fR len n (ang, cR row)))) ∧ (a3 < 0 → ¬ a3 = -1 → x = -11) ∧ ∀ idx, idx < 2 ^ 31 → a3 = nI idx → (ac (fR len n (ang, cR row)) ≤ idx → x = -11) ∧ ∀ y, chn len siz ded n l p idx (ang, cR row) y → x = nI y)) → wX5_plan (nI l) (nI p) a3 k (fun y k1 => x = y ∧ JP PP true s0 s1 (m.1, m.2.1, m.2.2.1, q, m.2.2.2.2.1, m.2.2.2.2.2) k1) := fun q x hq hx => by
      unfold wX5_plan
      refine hr _ ?_
      refine t5_ready (K := fun m2 => _) hs1 hn j1.2.2.2.2.2.2.2 ht5 hp12 hpl hl j3.1 j9.2 (fun A tu ac m2 hst h6 hF => ⟨fun _ => ?_, fun z => absurd rfl z⟩)
      have e0 : m2 0 = k 0 := hF.1 0 (by decide)
      refine t5_now (a := (ang, cR row)) hn ht5 hs1 hV hst.2.2 (by rw [e0]; exact aB_cR j3.2) (fun m5 hS5 => ?_)
      have hst5 := hst.lo hS5
      have hat := hst5.2.1.at hfa
      have hJ5 : ∀ m', loS m5 m' → JP PP true s0 s1 (m.1, m.2.1, m.2.2.1, q, m.2.2.2.2.1, m.2.2.2.2.2) m' := fun m' hS' => JS_plan (hp' := true) (k1 := m') hJS hl hp12 hq (hst5.lo hS').st (by rw [hS'.2 6 (by decide), hS5.2 6 (by decide)]; exact h6) ((hF.lo hS5).lo hS')
      obtain ⟨x1, x2⟩ := hx A tu ac hst.1
      rw [nI_clamp (by omega)]
      refine ⟨pk_in _ 4032 hfa, fun z => ⟨x1 (hat.1.mp z), hJ5 m5 loS.rf⟩, fun z => ?_⟩
      have hA : fR len n (ang, cR row) ∈ A := by
        cases Decidable.em (fR len n (ang, cR row) ∈ A) with
        | inl q => exact q
        | inr q => exact absurd (hat.1.mpr q) z
      obtain ⟨y1, y2, y3⟩ := x2 hA
      obtain ⟨-, ta, aca, -⟩ := hst.1.1 _ hA
      rw [(hat.2 hA).2]
      refine ⟨fun e => ⟨pk_in _ 4032 hfa, y1 e, hJ5 m5 loS.rf⟩, fun e => ⟨pk_in _ 4032 hfa, ?_⟩⟩
      rcases neg_or a3 with z3 | ⟨idx, hidx, rfl⟩
      · exact in_lo z3 ⟨fun _ => ⟨y2 z3 e, hJ5 m5 loS.rf⟩, fun w => absurd rfl w⟩
      · obtain ⟨w1, w2⟩ := y3 idx hidx rfl
        by_cases hge : ac (fR len n (ang, cR row)) ≤ idx
        · refine in_hi ?_ ⟨fun _ => ⟨w1 hge, hJ5 m5 loS.rf⟩, fun w => absurd rfl w⟩
          by_cases h0 : ac (fR len n (ang, cR row)) = 0
          · rw [h0]
            have : (nI 0 - 1 : Int32) < 0 := by decide
            exact Int32.lt_of_lt_of_le this (nI_pos' hidx)
          · rw [nI_m1 (by omega)]
            exact nI_lt (by omega) hidx
        · rw [nI_m1 (by omega)]
          refine in_yes (nI_pos hidx) (nI_nlt (by omega) (by omega)) ⟨fun w => absurd w (by decide), fun _ => ?_⟩
          have hda := (rst.d hst.1 hs1 hn ht5 hV).2 hA
          refine t5_best hs1 hn ht5 hV hA hst5 (fun code b m11 hb hS11 => ⟨idx + 1, ?_⟩) (fun hno => ?_)
          · refine t5_plan_loop (m := m5) (R := x) hs1 hn ht5 hidx (fun m' hS' => ⟨rfl, hJ5 m' hS'⟩) idx 0 (ang, cR row) code b m11 (by omega) hV hA hb (by omega) (hst5.lo hS11) hS11 w2
          · have hpos : 0 < cst tu ac (fR len n (ang, cR row)) := by unfold cst; omega
            exact absurd (bst_ex hn hda hpos) hno
    have c9 : c (fC len n (ang, cR row)) ≤ 1000000000 := by
      obtain ⟨kk, hco⟩ := hf.co
      exact hco.2.1 _
    refine pk_eq (c (fC len n (ang, cR row))) 1000000000 (fun e => ?_) (fun e => ?_)
    · refine tail k6 (-11) hf.st (fun A tu ac hlv => ⟨fun _ => rfl, fun hA => ?_⟩)
      exact absurd ((rst.d hlv hs1 hn ht5 hV).1.mp hA) (hf.no hs1 hn ht5 hV (by omega))
    · have hb : c (fC len n (ang, cR row)) < 1000000000 := by omega
      have hd := hf.d hs1 hV (Nat.le_refl _) hb
      have hac : ∀ A tu ac, lvF (gR len siz n l p) (eR len siz ded n) A tu ac → fR len n (ang, cR row) ∈ A ∧ c (fC len n (ang, cR row)) % 10000 = ac (fR len n (ang, cR row)) := fun A tu ac hlv => by
        have hA := (rst.d hlv hs1 hn ht5 hV).1.mpr ⟨_, hd⟩
        have := dD_one hd ((rst.d hlv hs1 hn ht5 hV).2 hA)
        have b := (hlv.1 _ hA).2.2.1
        unfold cst at this
        exact ⟨hA, by omega⟩
      refine ⟨fun h1 => ⟨fun h2 => ?_, fun h2 => ?_⟩, fun h1 => ?_⟩
      · rw [show (10000 : Int32) = nI 10000 from rfl, rem_nI (by omega) (by decide) (by decide)]
        refine tail k6 _ hf.st (fun A tu ac hlv => ⟨fun hA => absurd (hac A tu ac hlv).1 hA, fun _ => ⟨fun _ => by rw [(hac A tu ac hlv).2], fun _ h => absurd h2 h, fun idx hi e2 => ?_⟩⟩)
        rw [h2] at e2
        have : ¬ nI idx < 0 := nI_pos hi
        rw [← e2] at this
        exact absurd (by decide) this
      · rcases neg_or a3 with z3 | ⟨idx, hidx, rfl⟩
        · exfalso
          have b1 := (fa_le _ _).mp h1
          have b2 := (fa_lt _ _).mp z3
          have b3 : a3.toInt ≠ (-1 : Int32).toInt := fun e => h2 ((fa_eq _ _).mpr e)
          have c1 : ((-1 : Int32)).toInt = -1 := by decide
          have c2 : ((0 : Int32)).toInt = 0 := by decide
          omega
        · show wX1_actionAt (nI idx) (mu_cat k6 50 m.2.1) _
          rw [← hY6, cat_self]
          have go : ∀ R : Int32, (∀ x, chn len siz ded n l p idx (ang, cR row) x → R = nI x) → (c (fC len n (ang, cR row)) % 10000 ≤ idx → R = -11) → wX1_actionAt (nI idx) k6 (fun (r14 : Int32) (k12 : Mu) => ∀ m13 : HM, m13 = (m.1, mu_sub k12 50, m.2.2.1, k12, m.2.2.2.2.1, m.2.2.2.2.2) → wX5_plan (nI l) (nI p) (nI idx) k (fun y k1 => r14 = y ∧ JP PP true s0 s1 m13 k1)) := fun R r2 r3 => by
            refine t1_action hs1 hn ht5 j1 (by rw [hY6]; exact j2) hf hb hidx r2 r3 (fun k12 hf12 hk12 m13 e13 => ?_)
            have hY12 : mu_sub k12 50 = m.2.1 := by
              rw [← hY6]
              funext a
              exact hk12 (50 + a) (by omega)
            rw [hY12] at e13
            rw [e13]
            refine tail k12 R hf12.st (fun A tu ac hlv => ⟨fun hA => absurd (hac A tu ac hlv).1 hA, fun _ => ⟨fun h => absurd h h2, fun h => absurd h (nI_pos hidx), fun idx' hi e2 => ?_⟩⟩)
            have := (nI_eq hidx hi).mp e2
            subst this
            exact ⟨fun h => r3 (by rw [(hac A tu ac hlv).2]; exact h), r2⟩
          by_cases hlt : idx < c (fC len n (ang, cR row)) % 10000
          · obtain ⟨x, hx⟩ := chn_ex hs1 hn ht5 idx _ _ hd hlt
            exact go (nI x) (fun y hy => by rw [chn_one hn idx _ x y hV hx hy]) (fun h => absurd hlt (by omega))
          · exact go (-11) (fun y hy => absurd (chn_lt hs1 hn ht5 idx _ y _ hy hd) hlt) (fun _ => rfl)
      · refine tail k6 (-11) hf.st (fun A tu ac hlv => ⟨fun hA => absurd (hac A tu ac hlv).1 hA, fun _ => ⟨fun h => ?_, fun _ _ => rfl, fun idx hi e2 => ?_⟩⟩)
        · rw [h] at h1; exact absurd (Int32.le_refl _) h1
        · rw [e2] at h1
          have b1 : ¬ (-1 : Int32).toInt ≤ (nI idx).toInt := fun q => h1 ((fa_le _ _).mpr q)
          rw [nI_toInt hi] at b1
          have c1 : ((-1 : Int32)).toInt = -1 := by decide
          omega
end OP
