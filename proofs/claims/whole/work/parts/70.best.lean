/-! the class's search, call by call -/
def fc (c : Nat → Nat) (T : List (Nat × Nat)) (h : Nat) : Nat := match T[h]? with | some x => c x.1 | none => 1000000000
theorem fc_some {c : Nat → Nat} {T : List (Nat × Nat)} {h : Nat} {x : Nat × Nat} (e : T[h]? = some x) : fc c T h = c x.1 := by unfold fc; rw [e]
theorem fc_none {c : Nat → Nat} {T : List (Nat × Nat)} {h : Nat} (e : T[h]? = none) : fc c T h = 1000000000 := by unfold fc; rw [e]
theorem put50 {m k : Mu} (h : ∀ a, 50 ≤ a → k a = m a) : mu_put m 0 50 k = k := by
  funext a
  by_cases ha : a < 50
  · have := put_in (m := m) (k := k) (o := 0) (n := 50) ha
    rw [Nat.zero_add] at this
    exact this
  · rw [put_out (by omega)]; exact (h a (by omega)).symm
def bS (m m' : Mu) : Prop := (∀ a, 50 ≤ a → m' a = m a) ∧ m' 13 11 = m 13 11 ∧ m' 13 12 = m 13 12
theorem bS.rf {m : Mu} : bS m m := ⟨fun _ _ => rfl, rfl, rfl⟩
theorem bS.tr {m m' m'' : Mu} (h : bS m m') (h2 : bS m' m'') : bS m m'' := ⟨fun a ha => (h2.1 a ha).trans (h.1 a ha), h2.2.1.trans h.2.1, h2.2.2.trans h.2.2⟩
theorem lS.b {m m' : Mu} (h : lS m m') : bS m m' := ⟨fun a ha => h.1 a (by omega) (by omega) (by omega) (by omega) (by omega) (by omega) (by omega) (by omega), h.2.1 11 (by decide), h.2.1 12 (by decide)⟩
theorem imS.b {m m' : Mu} (h : imS m m') : bS m m' := ⟨fun a ha => h a (by omega) (by omega) (by omega) (by omega) (by omega), congrFun (h 13 (by decide) (by decide) (by decide) (by decide) (by decide)) 11, congrFun (h 13 (by decide) (by decide) (by decide) (by decide) (by decide)) 12⟩
section BC
variable {len siz : Nat → Nat} {ded : Nat → Bool} {n l p0 : Nat} {a0 : Sit} {m : Mu} {S : Nat}
theorem vwA.keep {m m' : Mu} (h : vwA len siz ded n m) (e1 : m' 1 = m 1) (e13 : m' 13 8 = m 13 8) (e20 : m' 20 = m 20) (e24 : m' 24 = m 24) (e5 : m' 28 5 = m 28 5) (e6 : m' 28 6 = m 28 6) : vwA len siz ded n m' := by
  obtain ⟨h1, ⟨a1, a2, a3, a4, D, a5, a6, a7⟩⟩ := h
  refine ⟨h1.keep e1 e13, ⟨fun p hp => ?_, fun l hl => ?_, ?_, a4, D, a5, ?_, a7⟩⟩
  · show m' 20 p = _ ∧ _
    rw [e20]; exact a1 p hp
  · show m' 24 l = _ ∧ _
    rw [e24]; exact a2 l hl
  · exact e5.trans a3
  · exact e6.trans a6
theorem vwA.imS {m m' : Mu} (h : vwA len siz ded n m) (e : imS m m') : vwA len siz ded n m' := by
  have g : ∀ a, a = 1 ∨ a = 13 ∨ a = 20 ∨ a = 24 ∨ a = 28 → m' a = m a := fun a ha => e a (by omega) (by omega) (by omega) (by omega) (by omega)
  exact h.keep (g 1 (by decide)) (congrFun (g 13 (by decide)) 8) (g 20 (by decide)) (g 24 (by decide)) (congrFun (g 28 (by decide)) 5) (congrFun (g 28 (by decide)) 6)
theorem seM.keep {c : Nat → Nat} {T M : List (Nat × Nat)} {hT hM : Nat} {m m' : Mu} (h : seM S c T M hT hM m) (e : ∀ a, a = 5 ∨ a = 30 ∨ a = 33 ∨ a = 40 ∨ a = 43 → m' a = m a) (e9 : m' 13 9 = m 13 9) : seM S c T M hT hM m' := by
  obtain ⟨⟨c1, c2⟩, s2, s3, s4⟩ := h
  refine ⟨⟨fun s hs => by rw [e 5 (by decide)]; exact c1 s hs, c2⟩, s2.keep (e 30 (by decide)) (e 33 (by decide)), s3.keep (e 40 (by decide)) (e 43 (by decide)), e9.trans s4⟩
theorem seM.lS {c : Nat → Nat} {T M : List (Nat × Nat)} {hT hM : Nat} {m m' : Mu} (h : seM S c T M hT hM m) (e : lS m m') : seM S c T M hT hM m' := h.keep (fun a ha => e.1 a (by omega) (by omega) (by omega) (by omega) (by omega) (by omega) (by omega) (by omega)) (e.2.1 9 (by decide))
section FCQ
variable {c : Nat → Nat} {T M : List (Nat × Nat)} {hT hM : Nat}
theorem t1_fc {b : Nat} {Q : List (Nat × Nat)} {h k : Nat} {K : Int32 → Prop} (hQ : quM b Q h m) (hh : h ≤ Q.length) (hl : Q.length ≤ 4032) (hc : coM c k m) (hq : ∀ x ∈ Q, x.1 < 4032) (hK : K (nI (fc c Q h))) : wX2_first (mu_sub m b) (fun r => wX1_costOf r m K) :=
  t2_first hQ hh hl (fun x hx => t1_cost (Or.inr ⟨k, hc⟩) (hq x (List.mem_of_getElem? hx)) (by rw [fc_some hx] at hK; exact hK)) (fun hx => t1_cost0 (by rw [fc_none hx] at hK; exact hK))
theorem fc_le (hc : ∀ s, c s ≤ 1000000000) : fc c T hT ≤ 1000000000 := by
  unfold fc
  split
  · exact hc _
  · exact Nat.le_refl _
end FCQ
theorem t1_best_loop (hV0 : sV len siz n a0) (hs1 : ∀ l, l < n → 1 ≤ siz l) (hn : n ≤ 3) (h5 : trk len 12 ≤ 5) (hS : S = 12 * cnt (plc len 12).length n) {K : Int32 → Mu → Prop} (hK : ∀ m' c T M hT hM lv, srch (gC len siz n l p0) (eC len siz ded n) S lv c T M hT hM (fun _ => False) → seM S c T M hT hM m' → vwA len siz ded n m' → bS m m' → (∀ u t w, c u < c (fC len n a0) → eC len siz ded n u t w → c t ≤ c u + w) → K (nI (c (fC len n a0))) m') : ∀ d i c T M hT hM lv m1, i + d = 8064 → i ≤ hT + hM → srch (gC len siz n l p0) (eC len siz ded n) S lv c T M hT hM (fun _ => False) → seM S c T M hT hM m1 → vwA len siz ded n m1 → bS m m1 → lpX1_bestCost_8 K (d + 1) (nI (fC len n a0)) (nI i) m1 := by
  obtain ⟨f1, f2⟩ := fC_lt hs1 hn h5 hV0
  rw [← hS] at f1 f2
  intro d
  induction d with
  | zero =>
    intro i c T M hT hM lv m1 hi hle hR hSe hA hB
    have lT := hR.2.2.1.len
    have lM := hR.2.2.2.1.len
    have eT := hR.2.2.2.2.1
    have eM := hR.2.2.2.2.2.1
    unfold lpX1_bestCost_8
    refine pk_le 8064 i (fun _ => t1_cost (Or.inr ⟨_, hSe.1⟩) (by omega) (hK m1 c T M hT hM lv hR hSe hA hB ?_)) (fun z => absurd z (by omega))
    exact srch_stop _ _ hR (hSe.1.2.1 _) (fun x hx => by have := (List.getElem?_eq_some_iff.mp hx).1; omega) (fun x hx => by have := (List.getElem?_eq_some_iff.mp hx).1; omega)
  | succ d ih =>
    intro i c T M hT hM lv m1 hi hle hR hSe hA hB
    have lT := hR.2.2.1.len
    have lM := hR.2.2.2.1.len
    have eT := hR.2.2.2.2.1
    have eM := hR.2.2.2.2.2.1
    have c9 := hSe.1.2.1
    have qT : ∀ x ∈ T, x.1 < 4032 := fun x hx => by have := (hR.2.2.1.2.1 x hx).2.2; omega
    have qM : ∀ x ∈ M, x.1 < 4032 := fun x hx => by have := (hR.2.2.2.1.2.1 x hx).2.2; omega
    have f9T := fc_le (T := T) (hT := hT) c9
    have f9M := fc_le (T := M) (hT := hM) c9
    have c9s := c9 (fC len n a0)
    unfold lpX1_bestCost_8
    refine pk_le 8064 i (fun z => absurd z (by omega)) (fun _ => ?_)
    refine t1_fc hSe.2.1 eT (by omega) hSe.1 qT (t1_fc hSe.2.2.1 eM (by omega) hSe.1 qM (pk_le (fc c M hM) (fc c T hT) (fun hMT => ?_) (fun hTM => ?_)))
    · refine ⟨by decide, fun z => absurd z (by decide), fun _ => ?_⟩
      refine t1_fc hSe.2.2.1 eM (by omega) hSe.1 qM (t1_cost (Or.inr ⟨_, hSe.1⟩) (by omega) (pk_lt (fc c M hM) (c (fC len n a0)) (fun hlt => ?_) (fun hge => ?_)))
      · have hsome : ∃ x, M[hM]? = some x := by
          cases hx : M[hM]? with
          | none => rw [fc_none hx] at hlt; omega
          | some x => exact ⟨x, rfl⟩
        obtain ⟨⟨s, kk⟩, hx⟩ := hsome
        rw [fc_some hx] at hlt hMT
        have hb : c s < 1000000000 := by show c (s, kk).1 < _; omega
        obtain ⟨kp, hkp⟩ := hR.2.1 s hb
        obtain ⟨a, hVa, ea⟩ := fin_V hkp
        have hpop := pop_M _ _ hR hx (fun y hy => by rw [fc_some hy] at hMT; show c (s, kk).1 ≤ _; omega) hb
        have hs4 : s < 4032 := qM (s, kk) (List.mem_of_getElem? hx)
        refine t2_remove hSe.2.2.1 (by omega) hx (by show s < _; omega) (fun m11 hQ11 hS11 => ?_)
        show wX1_listNeighbours (nI s) m11 _
        rw [← ea] at hpop hb ⊢
        have hSe11 : seM S c T M hT (hM + 1) m11 := ⟨⟨fun u hu => by rw [hS11 5 (by decide)]; exact hSe.1.1 u hu, hSe.1.2⟩, hSe.2.1.keep (hS11 30 (by decide)) (hS11 33 (by decide)), hQ11, by rw [hS11 13 (by decide)]; exact hSe.2.2.2⟩
        have hA11 : vwA len siz ded n m11 := hA.keep (hS11 1 (by decide)) (congrFun (hS11 13 (by decide)) 8) (hS11 20 (by decide)) (hS11 24 (by decide)) (congrFun (hS11 28 (by decide)) 5) (congrFun (hS11 28 (by decide)) 6)
        refine t1_list hVa hs1 hn h5 hA11 (fun k13 L hL hM13 hA13 hS13 m14 e14 => ?_)
        rw [put50 hS13.b.1] at e14
        subst e14
        have hSe14 := hSe11.lS hS13
        have bAll : bS m m14 := hB.tr (bS.tr ⟨fun x hx => hS11 x (by omega), congrFun (hS11 13 (by decide)) 11, congrFun (hS11 13 (by decide)) 12⟩ hS13.b)
        obtain ⟨fa1, fa2⟩ := fC_lt hs1 hn h5 hVa
        refine t1_cost (Or.inr ⟨_, hSe14.1⟩) (by omega) ⟨L.length + 1, ?_⟩
        refine t1_impr_loop (l := l) (p0 := p0) (lv := lv) hVa hs1 hn h5 hS hL hM13 hb (fun k16 c' T' M' lv' hR' hSe' hI' m17 e17 x18 e18 => ?_) L.length 0 c T M m14 (by omega) (hpop.imp id (fun z => z.2)) hSe14 imS.rf rfl (fun i x hi => absurd hi (by omega))
        rw [put50 hI'.b.1] at e17
        subst e17
        rw [e18, nI_1]
        exact ih (i + 1) c' T' M' hT (hM + 1) lv' m17 (by omega) (by omega) hR' hSe' (hA13.imS hI') (bAll.tr hI'.b)
      · refine t1_cost (Or.inr ⟨_, hSe.1⟩) (by omega) (hK m1 c T M hT hM lv hR hSe hA hB ?_)
        exact srch_stop _ _ hR c9s (fun x hx => by have := fc_some (c := c) hx; omega) (fun x hx => by have := fc_some (c := c) hx; omega)
    · refine ⟨by decide, fun _ => ?_, fun z => absurd z (by decide)⟩
      refine t1_fc hSe.2.1 eT (by omega) hSe.1 qT (t1_cost (Or.inr ⟨_, hSe.1⟩) (by omega) (pk_lt (fc c T hT) (c (fC len n a0)) (fun hlt => ?_) (fun hge => ?_)))
      · have hsome : ∃ x, T[hT]? = some x := by
          cases hx : T[hT]? with
          | none => rw [fc_none hx] at hlt; omega
          | some x => exact ⟨x, rfl⟩
        obtain ⟨⟨s, kk⟩, hx⟩ := hsome
        rw [fc_some hx] at hlt hTM
        have hb : c s < 1000000000 := by show c (s, kk).1 < _; omega
        obtain ⟨kp, hkp⟩ := hR.2.1 s hb
        obtain ⟨a, hVa, ea⟩ := fin_V hkp
        have hpop := pop_T _ _ hR hx (fun y hy => by rw [fc_some hy] at hTM; show c (s, kk).1 ≤ _; omega) hb
        have hs4 : s < 4032 := qT (s, kk) (List.mem_of_getElem? hx)
        refine t2_remove hSe.2.1 (by omega) hx (by show s < _; omega) (fun m11 hQ11 hS11 => ?_)
        show wX1_listNeighbours (nI s) m11 _
        rw [← ea] at hpop hb ⊢
        have hSe11 : seM S c T M (hT + 1) hM m11 := ⟨⟨fun u hu => by rw [hS11 5 (by decide)]; exact hSe.1.1 u hu, hSe.1.2⟩, hQ11, hSe.2.2.1.keep (hS11 40 (by decide)) (hS11 43 (by decide)), by rw [hS11 13 (by decide)]; exact hSe.2.2.2⟩
        have hA11 : vwA len siz ded n m11 := hA.keep (hS11 1 (by decide)) (congrFun (hS11 13 (by decide)) 8) (hS11 20 (by decide)) (hS11 24 (by decide)) (congrFun (hS11 28 (by decide)) 5) (congrFun (hS11 28 (by decide)) 6)
        refine t1_list hVa hs1 hn h5 hA11 (fun k13 L hL hM13 hA13 hS13 m14 e14 => ?_)
        rw [put50 hS13.b.1] at e14
        subst e14
        have hSe14 := hSe11.lS hS13
        have bAll : bS m m14 := hB.tr (bS.tr ⟨fun x hx => hS11 x (by omega), congrFun (hS11 13 (by decide)) 11, congrFun (hS11 13 (by decide)) 12⟩ hS13.b)
        obtain ⟨fa1, fa2⟩ := fC_lt hs1 hn h5 hVa
        refine t1_cost (Or.inr ⟨_, hSe14.1⟩) (by omega) ⟨L.length + 1, ?_⟩
        refine t1_impr_loop (l := l) (p0 := p0) (lv := lv) hVa hs1 hn h5 hS hL hM13 hb (fun k16 c' T' M' lv' hR' hSe' hI' m17 e17 x18 e18 => ?_) L.length 0 c T M m14 (by omega) (hpop.imp id (fun z => z.2)) hSe14 imS.rf rfl (fun i x hi => absurd hi (by omega))
        rw [put50 hI'.b.1] at e17
        subst e17
        rw [e18, nI_1]
        exact ih (i + 1) c' T' M' (hT + 1) hM lv' m17 (by omega) (by omega) hR' hSe' (hA13.imS hI') (bAll.tr hI'.b)
      · refine t1_cost (Or.inr ⟨_, hSe.1⟩) (by omega) (hK m1 c T M hT hM lv hR hSe hA hB ?_)
        exact srch_stop _ _ hR c9s (fun x hx => by have := fc_some (c := c) hx; omega) (fun x hx => by have := fc_some (c := c) hx; omega)
end BC
