/-! the class's planner, whole calls -/
section CP
variable {len siz : Nat → Nat} {ded : Nat → Bool} {n l p : Nat} {a a0 : Sit} {c : Nat → Nat} {L : List (Nat × Nat)} {m : Mu}
/-- the planner has searched as far as a0 -/
def fin (len siz : Nat → Nat) (ded : Nat → Bool) (n l p : Nat) (a0 : Sit) (c : Nat → Nat) (m : Mu) : Prop := vwA len siz ded n m ∧ m 13 11 = nI l ∧ m 13 12 = nI p ∧ (∃ T M hT hM lv, srch (gC len siz n l p) (eC len siz ded n) (12 * cnt (plc len 12).length n) lv c T M hT hM (fun _ => False) ∧ seM (12 * cnt (plc len 12).length n) c T M hT hM m) ∧ ∀ u t w, c u < c (fC len n a0) → eC len siz ded n u t w → c t ≤ c u + w
theorem fin.st (h : fin len siz ded n l p a0 c m) : cSt len siz ded n l p m := by
  obtain ⟨h1, h2, h3, ⟨T, M, hT, hM, lv, h4⟩, -⟩ := h
  exact ⟨h1, h2, h3, c, T, M, hT, hM, lv, h4⟩
theorem fin.lS {m m' : Mu} (h : fin len siz ded n l p a0 c m) (e : lS m m') : fin len siz ded n l p a0 c m' := by
  obtain ⟨h1, h2, h3, ⟨T, M, hT, hM, lv, h4, h5⟩, h6⟩ := h
  exact ⟨h1.lS e, (e.2.1 11 (by decide)).trans h2, (e.2.1 12 (by decide)).trans h3, ⟨T, M, hT, hM, lv, h4, h5.lS e⟩, h6⟩
theorem fin.keep {m m' : Mu} (h : fin len siz ded n l p a0 c m) (e : ∀ a, a < 50 → m' a = m a) : fin len siz ded n l p a0 c m' := by
  obtain ⟨h1, h2, h3, ⟨T, M, hT, hM, lv, h4, h5⟩, h6⟩ := h
  have e13 := e 13 (by decide)
  exact ⟨h1.keep (e 1 (by decide)) (congrFun e13 8) (e 20 (by decide)) (e 24 (by decide)) (congrFun (e 28 (by decide)) 5) (congrFun (e 28 (by decide)) 6), (congrFun e13 11).trans h2, (congrFun e13 12).trans h3, ⟨T, M, hT, hM, lv, h4, h5.keep (fun a ha => e a (by omega)) (congrFun e13 9)⟩, h6⟩
theorem fin.co (h : fin len siz ded n l p a0 c m) : ∃ k, coM c k m := by
  obtain ⟨h1, h2, h3, ⟨T, M, hT, hM, lv, h4, h5⟩, h6⟩ := h
  exact ⟨_, h5.1⟩
/-- a cost up to the start's is a distance -/
theorem fin.d (h : fin len siz ded n l p a0 c m) (hs1 : ∀ l, l < n → 1 ≤ siz l) (hV : sV len siz n a) (hle : c (fC len n a) ≤ c (fC len n a0)) (hb : c (fC len n a) < 1000000000) : dD len siz ded n l p (c (fC len n a)) a := by
  obtain ⟨h1, h2, h3, ⟨T, M, hT, hM, lv, h4, h5⟩, h6⟩ := h
  exact (dC hs1 hV).mp (low_isD _ _ h4.1 h6 (h4.2.1 _ hb) hle)
theorem fin.next (h : fin len siz ded n l p a0 c m) (hs1 : ∀ l, l < n → 1 ≤ siz l) {b : Sit} {w : Nat} (hV : sV len siz n a) (hVb : sV len siz n b) (hle : c (fC len n a) ≤ c (fC len n a0)) (hb : c (fC len n a) < 1000000000) (hw : 0 < w) : c (fC len n b) + w = c (fC len n a) ↔ ∃ e, dD len siz ded n l p e b ∧ e + w = c (fC len n a) := by
  obtain ⟨h1, h2, h3, ⟨T, M, hT, hM, lv, h4, h5⟩, h6⟩ := h
  rw [low_next _ _ h4.1 h6 h4.2.1 hle hb hw]
  exact ⟨fun ⟨e, x, y⟩ => ⟨e, (dC hs1 hVb).mp x, y⟩, fun ⟨e, x, y⟩ => ⟨e, (dC hs1 hVb).mpr x, y⟩⟩
/-- unreached: no path at all -/
theorem fin.no (h : fin len siz ded n l p a0 c m) (hs1 : ∀ l, l < n → 1 ≤ siz l) (hn : n ≤ 3) (h5 : trk len 12 ≤ 5) (hV : sV len siz n a0) (hb : ¬ c (fC len n a0) < 1000000000) : ¬ ∃ e, dD len siz ded n l p e a0 := by
  rintro ⟨e, he⟩
  obtain ⟨T, A, e1, e2, e3⟩ := dD_small hs1 hn h5 hV he
  obtain ⟨h1, h2, h3, ⟨T, M, hT, hM, lv, h4, h5⟩, h6⟩ := h
  obtain ⟨k, hk⟩ := ((dC hs1 hV).mpr he).1
  rcases low _ _ h4.1 h6 k e _ hk with z | z <;> omega
theorem t1_fob_loop {K : Int32 → Prop} (hf : fin len siz ded n l p a0 c m) (hs1 : ∀ l, l < n → 1 ≤ siz l) (hn : n ≤ 3) (h5 : trk len 12 ≤ 5) (hV : sV len siz n a) (hle : c (fC len n a) ≤ c (fC len n a0)) (hb : c (fC len n a) < 1000000000) (hL : nbI len siz ded (fC len n) a 50 14 L) (hM : nbM L m) (h1 : ∀ i code b, i < L.length → L[i]? = some (code, fC len n b) → bst len siz ded n l p a code b → K (nI i)) (h0 : (¬ ∃ code b, bst len siz ded n l p a code b) → K (-11)) : ∀ d j, j + d = L.length → (∀ i x, i < j → L[i]? = some x → c x.2 + wgt x.1 ≠ c (fC len n a)) → lpX1_firstOnBestPlan_2 m K (d + 1) (nI (c (fC len n a))) (nI j) := by
  have hda := hf.d hs1 hV hle hb
  have h14 := hL.2.2.2
  have wpos : ∀ code, 0 < wgt code := fun code => by rcases wgt_or code with z | z <;> omega
  have seen : ∀ j, (∀ (i : Nat) (x : Nat × Nat), i < j → L[i]? = some x → c x.2 + wgt x.1 ≠ c (fC len n a)) → ∀ code b, act len siz ded code a b → (∀ i, L[i]? = some (code, fC len n b) → i < j) → ¬ ∃ e, dD len siz ded n l p e b ∧ dD len siz ded n l p (e + wgt code) a := fun j hno code b hact hlt ⟨e, x, y⟩ => by
    have hVb := act.V hV hact
    obtain ⟨i, hi, ei⟩ := List.getElem_of_mem (hL.2.1 code b hact (act_lt hV hn hact))
    have hg : L[i]? = some (code, fC len n b) := by rw [List.getElem?_eq_getElem hi, ei]
    exact hno i _ (hlt i hg) hg ((hf.next hs1 hV hVb hle hb (wpos code)).mpr ⟨e, x, dD_one y hda⟩)
  intro d
  induction d with
  | zero =>
    intro j hj hno
    have e : j = L.length := by omega
    subst e
    unfold lpX1_firstOnBestPlan_2
    refine pk_le L.length L.length (fun _ => h0 ?_) (fun z => absurd z (by omega)) (hx := hM.1)
    rintro ⟨code, b, hb1, hb2, -⟩
    exact seen L.length hno code b hb1 (fun i hi => (List.getElem?_eq_some_iff.mp hi).1) hb2
  | succ d ih =>
    intro j hj hno
    have hx := List.getElem?_eq_getElem (show j < L.length by omega)
    generalize hy : L[j]'(by omega) = y at hx
    obtain ⟨cd, t⟩ := y
    obtain ⟨hcd, b, hact, et⟩ := hL.1 _ (List.mem_of_getElem? hx)
    have hact' : act len siz ded cd a b := hact
    have et' : t = fC len n b := et
    have hVb := act.V hV hact'
    obtain ⟨g1, g2⟩ := fC_lt hs1 hn h5 hVb
    obtain ⟨m3, m4⟩ := hM.2 j cd t hx
    obtain ⟨k, hco⟩ := hf.co
    have c9 := hco.2.1 (fC len n b)
    have c9a := hco.2.1 (fC len n a)
    subst et'
    have next : c (fC len n b) + wgt cd ≠ c (fC len n a) → lpX1_firstOnBestPlan_2 m K (d + 1) (nI (c (fC len n a))) (nI j + 1) := fun hne => by
      rw [nI_1]
      refine ih (j + 1) (by omega) (fun i x hi hxi => ?_)
      by_cases e : i = j
      · subst e
        rw [hx] at hxi
        cases hxi
        exact hne
      · exact hno i x (by omega) hxi
    unfold lpX1_firstOnBestPlan_2
    refine pk_le L.length j (fun z => absurd z (by omega)) (fun _ => pk_le 14 j (fun z => absurd z (by omega)) (fun _ => ⟨pk_in j 14 (by omega), ?_⟩)) (hx := hM.1)
    rw [nI_clamp (by omega), m4]
    refine t1_cost (Or.inr ⟨k, hco⟩) (by omega) (pk_eq (c (fC len n b)) 1000000000 (fun e x5 e5 => ?_) (fun hne => ⟨pk_in j 14 (by omega), ?_⟩))
    · rw [e5]; exact next (by have := wpos cd; omega)
    · rw [m3]
      have key : ∀ w : Nat, w = wgt cd → (((nI (c (fC len n b)) + nI w) = nI (c (fC len n a)) → K (nI j)) ∧ (¬ (nI (c (fC len n b)) + nI w) = nI (c (fC len n a)) → ∀ x8 : Int32, x8 = nI j + (1 : Int32) → lpX1_firstOnBestPlan_2 m K (d + 1) (nI (c (fC len n a))) x8)) := fun w hw => by
        have hwb : w ≤ 10001 := by rcases wgt_or cd with z | z <;> omega
        rw [nI_add]
        refine pk_eq (c (fC len n b) + w) (c (fC len n a)) (fun e => ?_) (fun e x8 e8 => ?_)
        · refine h1 j cd b (by omega) hx ⟨hact', ?_, fun code' b' hc' hact2 => ?_⟩
          · obtain ⟨e', x, y⟩ := (hf.next hs1 hV hVb hle hb (wpos cd)).mp (by rw [← hw]; exact e)
            exact ⟨e', x, by rw [y]; exact hda⟩
          · refine seen j hno code' b' hact2 (fun i hi => ?_)
            have hil := (List.getElem?_eq_some_iff.mp hi).1
            have hie := (List.getElem?_eq_some_iff.mp hi).2
            have pw := List.pairwise_iff_getElem.mp hL.2.2.1
            rcases Nat.lt_trichotomy i j with z | z | z
            · exact z
            · subst z
              rw [hx] at hi
              have := congrArg Prod.fst (Option.some.inj hi)
              have : cd = code' := this
              omega
            · have := pw j i (by omega) hil z
              rw [hy, hie] at this
              have : cd < code' := this
              omega
        · rw [e8]; exact next (by rw [← hw]; exact e)
      refine pk_lt 1 cd (fun z => ?_) (fun z => ?_)
      · exact key 1 (by unfold wgt; rw [if_neg (by omega)])
      · exact key 10001 (by unfold wgt; rw [if_pos (by omega)])
theorem t1_act_loop {K : Int32 → Mu → Prop} {R : Int32} {idx : Nat} (hs1 : ∀ l, l < n → 1 ≤ siz l) (hn : n ≤ 3) (h5 : trk len 12 ≤ 5) (hidx : idx < 2 ^ 31) (hb : c (fC len n a0) < 1000000000) (hK : ∀ m', fin len siz ded n l p a0 c m' → bS m m' → K R m') : ∀ d i a code m1, i + d = 4032 → fin len siz ded n l p a0 c m1 → bS m m1 → sV len siz n a → c (fC len n a) ≤ c (fC len n a0) → i + c (fC len n a) % 10000 ≤ 4031 → i ≤ idx + 1 → (i = idx + 1 → R = code) → (∀ j, i + j = idx → ∀ x, chn len siz ded n l p j a x → R = nI x) → (i ≤ idx → c (fC len n a) % 10000 ≤ idx - i → R = -11) → lpX1_actionAt_13 K (d + 1) (nI idx) (nI (fC len n a)) code (nI i) m1 := by
  intro d
  induction d with
  | zero => intro i a code m1 hi _ _ _ _ h; omega
  | succ d ih =>
    intro i a code m1 hi hf hB hV hle hA hix r1 r2 r3
    have hda := hf.d hs1 hV hle (by omega)
    obtain ⟨f1, f2⟩ := fC_lt hs1 hn h5 hV
    unfold lpX1_actionAt_13
    refine pk_lt idx i (fun z => ?_) (fun z => pk_le 4032 i (fun z => absurd z (by omega)) (fun _ => ?_))
    · rw [← r1 (by omega)]; exact hK m1 hf hB
    · refine t1_list hV hs1 hn h5 hf.1 (fun k5 L hL hM5 hA5 hS5 m6 e6 => ?_)
      rw [put50 hS5.b.1] at e6
      subst e6
      have hf6 := hf.lS hS5
      obtain ⟨k, hco⟩ := hf6.co
      have h14 := hL.2.2.2
      refine t1_cost (Or.inr ⟨k, hco⟩) (by omega) ⟨L.length + 1, ?_⟩
      refine t1_fob_loop hf6 hs1 hn h5 hV hle (by omega) hL hM5 (fun i' cd b hil hg hbst => ?_) (fun hno => ?_) L.length 0 (by omega) (fun i' x hi' => absurd hi' (by omega))
      · obtain ⟨q3, q4⟩ := hM5.2 i' cd _ hg
        have hVb := act.V hV hbst.1
        obtain ⟨e', x, y⟩ := id hbst.2.1
        have ey := dD_one y hda
        have hcb := (hf6.next hs1 hV hVb hle (by omega) (w := wgt cd) (by rcases wgt_or cd with z | z <;> omega)).mpr ⟨e', x, ey⟩
        have hst := dD_step (code := cd) (a := a) hs1 hn h5 x
        have hee : c (fC len n b) = e' := by omega
        rw [ey] at hst
        refine pk_lt i' 0 (fun z => absurd z (by omega)) (fun _ => pk_lt i' 14 (fun _ => ⟨pk_in i' 14 (by omega), fun x11 e11 => ⟨pk_in i' 14 (by omega), fun x12 e12 x13 e13 => ?_⟩⟩) (fun z => absurd z (by omega)))
        rw [nI_clamp (by omega)] at e11 e12
        rw [e11, e12, e13, q3, q4, nI_1]
        refine ih (i + 1) b (nI cd) m6 (by omega) hf6 (hB.tr hS5.b) hVb (by omega) (by rw [hee]; omega) (by omega) (fun hi2 => r2 0 (by omega) cd ⟨b, hbst⟩) (fun j hj x hx => r2 (j + 1) (by omega) x ⟨cd, b, hbst, hx⟩) (fun h1 h2 => r3 (by omega) ?_)
        rw [hee] at h2
        omega
      · have e0 : c (fC len n a) = 0 := by
          rcases Nat.eq_zero_or_pos (c (fC len n a)) with z | z
          · exact z
          · exact absurd (bst_ex hn hda z) hno
        have hR := r3 (by omega) (by rw [e0]; omega)
        rw [hR] at hK
        exact ⟨fun _ => hK m6 hf6 (hB.tr hS5.b), fun z => absurd (by decide) z⟩
end CP
