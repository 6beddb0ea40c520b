/-! the neighbours that the planner lists -/
def nbM (L : List (Nat × Nat)) (m : Mu) : Prop := m 13 10 = nI L.length ∧ ∀ (i c t : Nat), L[i]? = some (c, t) → m 3 i = nI c ∧ m 4 i = nI t
def nS (m m' : Mu) : Prop := (∀ a, a ≠ 2 → a ≠ 3 → a ≠ 4 → a ≠ 13 → a ≠ 21 → a ≠ 22 → a ≠ 23 → m' a = m a) ∧ ∀ i, i ≠ 10 → m' 13 i = m 13 i
theorem nS.rf {m : Mu} : nS m m := ⟨fun _ _ _ _ _ _ _ _ => rfl, fun _ _ => rfl⟩
theorem nS.tr {m m' m'' : Mu} (h : nS m m') (h2 : nS m' m'') : nS m m'' := ⟨fun a h1 h3 h4 h5 h6 h7 h8 => (h2.1 a h1 h3 h4 h5 h6 h7 h8).trans (h.1 a h1 h3 h4 h5 h6 h7 h8), fun i hi => (h2.2 i hi).trans (h.2 i hi)⟩
theorem pS.n {m m' : Mu} (h : pS m m') : nS m m' := ⟨fun a h1 _ _ _ h5 h6 h7 => h a h1 h5 h6 h7, fun i _ => congrFun (h 13 (by decide) (by decide) (by decide) (by decide)) i⟩
theorem oS.n {m m' : Mu} (h : oS m m') : nS m m' := ⟨fun a h1 _ _ _ _ _ _ => h a h1, fun i _ => congrFun (h 13 (by decide)) i⟩
section NE
variable {len siz : Nat → Nat} {ded : Nat → Bool} {n : Nat} {a b b' : Sit} {L : List (Nat × Nat)} {U N c : Nat} {m : Mu} {K : Mu → Prop}
/-- the list holds the actions of codes below U -/
def nbI (len siz : Nat → Nat) (ded : Nat → Bool) (f : Sit → Nat) (a : Sit) (U N : Nat) (L : List (Nat × Nat)) : Prop := (∀ x ∈ L, x.1 < U ∧ ∃ b, act len siz ded x.1 a b ∧ x.2 = f b) ∧ (∀ c b, act len siz ded c a b → c < U → (c, f b) ∈ L) ∧ L.Pairwise (fun x y => x.1 < y.1) ∧ L.length ≤ N
theorem nbI.add {f : Sit → Nat} (h : nbI len siz ded f a U N L) (hc : U ≤ c) (hno : ∀ c' b, U ≤ c' → c' < c → ¬ act len siz ded c' a b) (hb : act len siz ded c a b) (hone : ∀ b', act len siz ded c a b' → b' = b) : nbI len siz ded f a (c + 1) (N + 1) (L ++ [(c, f b)]) := by
  obtain ⟨h1, h2, h3, h4⟩ := h
  refine ⟨fun x hx => ?_, fun c' b' hb' hc' => ?_, ?_, by simp; omega⟩
  · rcases List.mem_append.mp hx with z | z
    · exact ⟨by have := (h1 x z).1; omega, (h1 x z).2⟩
    · simp at z
      subst z
      exact ⟨Nat.lt_succ_self _, b, hb, rfl⟩
  · by_cases e : c' = c
    · subst e
      rw [hone b' hb']; simp
    · by_cases e2 : c' < U
      · exact List.mem_append_left _ (h2 c' b' hb' e2)
      · exact absurd hb' (hno c' b' (by omega) (by omega))
  · refine List.pairwise_append.mpr ⟨h3, by simp, fun x hx y hy => ?_⟩
    simp at hy
    subst hy
    have := (h1 x hx).1
    show x.1 < c
    omega
theorem nbI.skip {f : Sit → Nat} {U' N' : Nat} (h : nbI len siz ded f a U N L) (hU : U ≤ U') (hN : N ≤ N') (hno : ∀ c' b, U ≤ c' → c' < U' → ¬ act len siz ded c' a b) : nbI len siz ded f a U' N' L := by
  obtain ⟨h1, h2, h3, h4⟩ := h
  refine ⟨fun x hx => ⟨by have := (h1 x hx).1; omega, (h1 x hx).2⟩, fun c' b' hb' hc' => ?_, h3, by omega⟩
  by_cases e2 : c' < U
  · exact h2 c' b' hb' e2
  · exact absurd hb' (hno c' b' (by omega) hc')
/-- a row holds no more than all -/
theorem sV_row (hV : sV len siz n a) {p : Nat} (hp : p < 13) : (a.2 p).length ≤ n := few n _ (hV.1.2.1 p hp) (hV.1.1 p hp)
theorem sMv_code {kd k : Nat} (hV : sV len siz n a) (hn : n ≤ 3) (h : sMv len siz ded kd k a b) : isKd kd ∧ 1 ≤ k ∧ k ≤ 3 := by
  have hs := (src_ne (ang := a.1) h.1 hV.1.2.2.2.2.2.1).2.1
  have := sV_row hV hs
  have := h.2.2.1
  exact ⟨h.1, h.2.1, by omega⟩
theorem kd_sep {kd kd' k k' : Nat} (h : isKd kd) (h' : isKd kd') (e : kd + k = kd' + k') (h3 : k ≤ 3) (h3' : k' ≤ 3) : kd = kd' ∧ k = k' := by
  rcases h with rfl | rfl | rfl | rfl <;> rcases h' with rfl | rfl | rfl | rfl <;> omega
/-- an action leads to one situation -/
theorem act_one (hV : sV len siz n a) (hn : n ≤ 3) (h : act len siz ded c a b) (h' : act len siz ded c a b') : b' = b := by
  rcases h with ⟨e, h⟩ | ⟨e, h⟩ | ⟨kd, k, e, h⟩ <;> rcases h' with ⟨e', h'⟩ | ⟨e', h'⟩ | ⟨kd', k', e', h'⟩
  · rw [h, h']
  · omega
  · have := sMv_code hV hn h'
    rcases this.1 with z | z | z | z <;> omega
  · omega
  · rw [h, h']
  · have := sMv_code hV hn h'
    rcases this.1 with z | z | z | z <;> omega
  · have := sMv_code hV hn h
    rcases this.1 with z | z | z | z <;> omega
  · have := sMv_code hV hn h
    rcases this.1 with z | z | z | z <;> omega
  · have s1 := sMv_code hV hn h
    have s2 := sMv_code hV hn h'
    obtain ⟨e1, e2⟩ := kd_sep s1.1 s2.1 (by omega) s1.2.2 s2.2.2
    subst e1 e2
    rw [h.2.2.2.2.2, h'.2.2.2.2.2]
/-- a movement's code -/
theorem act_mv {kd k : Nat} (hV : sV len siz n a) (hn : n ≤ 3) (hk : isKd kd) (h1 : 1 ≤ k) (h9 : k ≤ 9) (h : act len siz ded (kd + k) a b) : sMv len siz ded kd k a b := by
  rcases h with ⟨e, h⟩ | ⟨e, h⟩ | ⟨kd', k', e', h'⟩
  · rcases hk with z | z | z | z <;> omega
  · rcases hk with z | z | z | z <;> omega
  · have s2 := sMv_code hV hn h'
    have : kd = kd' ∧ k = k' := by
      have := s2.1
      rcases hk with rfl | rfl | rfl | rfl <;> rcases this with rfl | rfl | rfl | rfl <;> omega
    obtain ⟨e1, e2⟩ := this
    subst e1 e2
    exact h'
theorem t1_addNb {t : Nat} (hL : nbM L m) (h14 : L.length < 14) (hK : ∀ m', nbM (L ++ [(c, t)]) m' → (∀ a, a ≠ 3 → a ≠ 4 → a ≠ 13 → m' a = m a) → (∀ i, i ≠ 10 → m' 13 i = m 13 i) → K m') : wX1_addNeighbour (nI c) (nI t) m K := by
  unfold wX1_addNeighbour
  rw [hL.1]
  refine pk_lt L.length 0 (fun z => absurd z (by omega)) (fun _ => pk_le 14 L.length (fun z => absurd z (by omega)) (fun _ => ⟨pk_in L.length 14 (by omega), fun m3 e3 => ?_⟩))
  rw [nI_clamp (by omega)] at e3
  have g3 : m3 13 10 = nI L.length := by rw [e3, pu_upn _ _ _ (by decide)]; exact hL.1
  rw [g3]
  refine ⟨pk_in L.length 14 (by omega), fun m4 e4 m5 e5 => ?_⟩
  rw [nI_clamp (by omega)] at e4
  have g4 : m4 13 10 = nI L.length := by rw [e4, pu_upn _ _ _ (by decide)]; exact g3
  rw [g4, nI_1] at e5
  refine hK m5 ⟨?_, fun i c' t' hx => ?_⟩ (fun a h3 h4 h13 => ?_) (fun i hi => ?_)
  · rw [e5, pu_up, pu_u]; simp
  · rw [e5, pu_upn _ _ _ (by decide), pu_upn _ _ _ (by decide), e4, pu_upn _ _ _ (by decide), pu_up, e3, pu_up, pu_upn _ _ _ (by decide)]
    by_cases hi : i < L.length
    · rw [List.getElem?_append_left hi] at hx
      rw [pu_un _ _ (by omega), pu_un _ _ (by omega)]
      exact hL.2 i c' t' hx
    · have := (List.getElem?_eq_some_iff.mp hx).1
      simp at this
      have ei : i = L.length := by omega
      subst ei
      simp at hx
      rw [pu_u, pu_u, hx.1, hx.2]
      exact ⟨rfl, rfl⟩
  · rw [e5, pu_upn _ _ _ h13, e4, pu_upn _ _ _ h4, e3, pu_upn _ _ _ h3]
  · rw [e5, pu_up, pu_un _ _ hi, e4, pu_upn _ _ _ (by decide), e3, pu_upn _ _ _ (by decide)]
/-- the planner's copy of the house, but for its rows -/
def vwA (len siz : Nat → Nat) (ded : Nat → Bool) (n : Nat) (m : Mu) : Prop := plM (plc len 12) m ∧ yA len siz ded n (mu_sub m 20)
def vwB (siz : Nat → Nat) (a : Sit) (m : Mu) : Prop := yB siz a.2 (mu_sub m 20) ∧ m 28 7 = nI a.1
theorem vwA.nS {m m' : Mu} (h : vwA len siz ded n m) (e : nS m m') : vwA len siz ded n m' := by
  refine ⟨h.1.keep (e.1 1 (by decide) (by decide) (by decide) (by decide) (by decide) (by decide) (by decide)) (e.2 8 (by decide)), h.2.same (fun x h1 h2 h3 => e.1 (20 + x) (by omega) (by omega) (by omega) ?_ (by omega) (by omega) (by omega))⟩
  omega
theorem t_rev {kd : Nat} {K : Int32 → Prop} (hk : isKd kd) (h : K (nI (rv kd))) : wX4_reverseOf (nI kd) K := by
  rcases hk with rfl | rfl | rfl | rfl
  · exact ⟨fun z => absurd z (by decide), fun _ => ⟨fun z => absurd z (by decide), fun _ => ⟨fun z => absurd z (by decide), fun _ => h⟩⟩⟩
  · exact ⟨fun z => absurd z (by decide), fun _ => ⟨fun z => absurd z (by decide), fun _ => ⟨fun z => absurd z (by decide), fun _ => h⟩⟩⟩
  · exact ⟨fun z => absurd z (by decide), fun _ => ⟨fun z => absurd z (by decide), fun _ => ⟨fun _ => h, fun z => absurd (by decide) z⟩⟩⟩
  · exact ⟨fun z => absurd z (by decide), fun _ => ⟨fun z => absurd z (by decide), fun _ => ⟨fun _ => h, fun z => absurd (by decide) z⟩⟩⟩
theorem t1_mov_loop {kd N0 : Nat} (hk : isKd kd) (hV : sV len siz n a) (hs1 : ∀ l, l < n → 1 ≤ siz l) (hn : n ≤ 3) (h5 : trk len 12 ≤ 5) (hN0 : N0 + 3 ≤ 14) (hK : ∀ m' L', nbI len siz ded (fC len n) a (kd + 10) (N0 + 3) L' → nbM L' m' → vwA len siz ded n m' → vwB siz a m' → nS m m' → K m') : ∀ d c L m1, c + d = (a.2 (srcOf kd a.1)).length + 1 → 1 ≤ c → nbI len siz ded (fC len n) a (kd + c) (N0 + (c - 1)) L → nbM L m1 → vwA len siz ded n m1 → vwB siz a m1 → nS m m1 → lpX1_addMovements_22 K (d + 1) (nI kd) (nI (a.2 (srcOf kd a.1)).length) (nI c) m1 := by
  have ha := hV.1.2.2.2.2.2.1
  obtain ⟨hne, hs13, ht13⟩ := src_ne (ang := a.1) hk ha
  have hcnt := sV_row hV hs13
  have hcap := wf_cap hV.1 hs13 ht13 hne
  have hkd : 10 ≤ kd ∧ kd ≤ 40 := by rcases hk with rfl | rfl | rfl | rfl <;> decide
  intro d
  induction d with
  | zero =>
    intro c L m1 hc h1 hI hM hA hB hS
    unfold lpX1_addMovements_22
    refine pk_lt (a.2 (srcOf kd a.1)).length c (fun _ => hK m1 L ?_ hM hA hB hS) (fun z => absurd z (by omega))
    refine hI.skip (by omega) (by omega) (fun c' b h2 h3 hb => ?_)
    obtain ⟨k, rfl⟩ : ∃ k, c' = kd + k := ⟨c' - kd, by omega⟩
    have := (act_mv hV hn hk (by omega) (by omega) hb).2.2.1
    omega
  | succ d ih =>
    intro c L m1 hc h1 hI hM hA hB hS
    have hrow : ∀ p, p < 13 → ∀ l ∈ a.2 p, l < n := hV.1.1
    unfold lpX1_addMovements_22
    refine pk_lt (a.2 (srcOf kd a.1)).length c (fun z => absurd z (by omega)) (fun _ => ?_)
    have noway : (∀ b, ¬ sMv len siz ded kd c a b) → lpX1_addMovements_22 K (d + 1) (nI kd) (nI (a.2 (srcOf kd a.1)).length) (nI (c + 1)) m1 := fun hno => by
      refine ih (c + 1) L m1 (by omega) (by omega) ?_ hM hA hB hS
      refine hI.skip (by omega) (by omega) (fun c' b h2 h3 hb => ?_)
      have e : c' = kd + c := by omega
      rw [e] at hb
      exact hno b (act_mv hV hn hk h1 (by omega) hb)
    rcases Nat.eq_zero_or_pos (len (posOf kd a.1)) with hz | hz
    · refine t_mvErr_none hk hB.2 ha hA.2 hz ⟨fun z => absurd z (by decide), fun _ x16 e16 => ?_⟩
      rw [e16, nI_1]
      exact noway (fun b hb => by have := hb.2.2.2.1; omega)
    · refine t_mvErr hk hB.2 ha hA.2 hB.1 hrow (hV.1.2.2.2.2.1 _ ht13) hz (by omega) ⟨fun he => ?_, fun he x16 e16 => ?_⟩
      · have hmv : sMv len siz ded kd c a (a.1, mvA kd (posOf kd a.1) a.2 c) := ⟨hk, h1, by omega, hz, he, rfl⟩
        have hVb := hmv.V hV
        have hFb := sV_F hs1 hVb
        obtain ⟨v1, v2, v3, v4, v5⟩ := rv_kd (ang := a.1) hk
        refine t_shift hk hB.2 ha hB.1 (by omega) (by omega) (fun k7 hB7 hS7 m8 e8 => ?_)
        have hS8 : nS m1 m8 := by rw [e8]; exact (put_viewS hS7).n
        have hA8 := hA.nS hS8
        have hB8 : yB siz (mvA kd (posOf kd a.1) a.2 c) (mu_sub m8 20) := by rw [e8, put_view hS7]; exact hB7
        have e28 : m8 28 7 = nI a.1 := by rw [hS8.1 28 (by decide) (by decide) (by decide) (by decide) (by decide) (by decide) (by decide)]; exact hB.2
        refine t1_stateOf_v hA8.1 plc_ne (by rw [plc_len]; omega) plc_13 hB8 hA8.2.2.2.1 hn hFb e28 (fun m10 hS10 => ?_)
        have hS10n : nS m8 m10 := hS10.n
        have hM10 : nbM L m10 := by
          refine ⟨?_, fun i c' t' hx => ?_⟩
          · rw [hS10 13 (by decide), e8, (put_viewS hS7) 13 (by decide) (by decide) (by decide) (by decide)]; exact hM.1
          · rw [hS10 3 (by decide), hS10 4 (by decide), e8, (put_viewS hS7) 3 (by decide) (by decide) (by decide) (by decide), (put_viewS hS7) 4 (by decide) (by decide) (by decide) (by decide)]; exact hM.2 i c' t' hx
        rw [nI_add]
        refine t1_addNb hM10 (by have := hI.2.2.2; omega) (fun m11 hM11 hS11 hS11' => t_rev hk ?_)
        have hS11n : nS m10 m11 := ⟨fun x h1 h2 h3 h4 _ _ _ => hS11 x h2 h3 h4, hS11'⟩
        have hB11 : yB siz (mvA kd (posOf kd a.1) a.2 c) (mu_sub m11 20) := by
          have : mu_sub m11 20 = mu_sub m8 20 := funext fun x => (hS11 (20 + x) (by omega) (by omega) (by omega)).trans (hS10 (20 + x) (by omega))
          rw [this]; exact hB8
        have e28b : m11 28 7 = nI a.1 := by rw [hS11 28 (by decide) (by decide) (by decide), hS10 28 (by decide)]; exact e28
        have htl := mv_tlen (row := a.2) (k := c) hk ha (by omega)
        have hcap2 := wf_cap hVb.1 ht13 hs13 (fun e => hne e.symm)
        refine t_shift v1 e28b ha hB11 ?_ ?_ (fun k13 hB13 hS13 m14 e14 x15 e15 => ?_)
        · rw [v3, htl]; omega
        · rw [v4]
          have hsl : (mvA kd (posOf kd a.1) a.2 c (srcOf kd a.1)).length = (a.2 (srcOf kd a.1)).length - c := mvA_src_len hk (posOf_lt ha) (by show c ≤ (a.2 (srcOf kd a.1)).length; omega)
          rw [hsl]; omega
        · rw [v5, mv_back hk (posOf_lt ha) (by show c ≤ (a.2 (srcOf kd a.1)).length; omega)] at hB13
          have hS14 : nS m11 m14 := by rw [e14]; exact (put_viewS hS13).n
          have hAll : nS m1 m14 := hS8.tr (hS10n.tr (hS11n.tr hS14))
          rw [e15, nI_1]
          refine ih (c + 1) (L ++ [(kd + c, fC len n (a.1, mvA kd (posOf kd a.1) a.2 c))]) m14 (by omega) (by omega) ?_ ?_ (hA.nS hAll) ⟨?_, ?_⟩ (hS.tr hAll)
          · have := nbI.add (c := kd + c) hI (Nat.le_refl _) (fun c' b h2 h3 => by omega) (Or.inr (Or.inr ⟨kd, c, rfl, hmv⟩)) (fun b' hb' => by
              have := act_mv hV hn hk h1 (by omega) hb'
              rw [this.2.2.2.2.2])
            rw [show N0 + (c + 1 - 1) = N0 + (c - 1) + 1 by omega]
            exact this
          · refine ⟨?_, fun i c' t' hx => ?_⟩
            · rw [e14, (put_viewS hS13) 13 (by decide) (by decide) (by decide) (by decide)]; exact hM11.1
            · rw [e14, (put_viewS hS13) 3 (by decide) (by decide) (by decide) (by decide), (put_viewS hS13) 4 (by decide) (by decide) (by decide) (by decide)]; exact hM11.2 i c' t' hx
          · rw [e14, put_view hS13]; exact hB13
          · rw [e14, (put_viewS hS13) 28 (by decide) (by decide) (by decide) (by decide)]; exact e28b
      · rw [e16, nI_1]
        exact noway (fun b hb => he hb.2.2.2.2.1)
end NE
