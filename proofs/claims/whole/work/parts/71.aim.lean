/-! aiming at a goal -/
def gI (len siz : Nat → Nat) (n l p B S : Nat) (c : Nat → Nat) (M : List (Nat × Nat)) : Prop := (∀ s, c s = 0 ∨ c s = 1000000000) ∧ (∀ s, c s = 0 → gC len siz n l p s) ∧ (∀ s, gC len siz n l p s → s < B → c s = 0) ∧ (∀ x ∈ M, x.2 = 0 ∧ c x.1 = 0 ∧ x.1 < S) ∧ (M.map Prod.fst).Nodup ∧ ∀ s, c s = 0 → ∃ i : Nat, M[i]? = some (s, 0)
section AI
variable {len siz : Nat → Nat} {ded : Nat → Bool} {n l p B S t : Nat} {c : Nat → Nat} {M : List (Nat × Nat)} {m : Mu} {K : Mu → Prop}
theorem gI.more {B' : Nat} (h : gI len siz n l p B S c M) (hB : ∀ s, gC len siz n l p s → s < B' → B ≤ s → c s = 0) : gI len siz n l p B' S c M := ⟨h.1, h.2.1, fun s hs hb => by
  by_cases e : s < B
  · exact h.2.2.1 s hs e
  · exact hB s hs hb (by omega), h.2.2.2⟩
theorem gI.add (h : gI len siz n l p B S c M) (ht : t < S) (hg : gC len siz n l p t) (h0 : 0 < c t) : gI len siz n l p B S (va_up c t 0) (M ++ [(t, 0)]) := by
  obtain ⟨h1, h2, h3, h4, h5, h6⟩ := h
  have keep : ∀ s, c s = 0 → va_up c t 0 s = 0 := fun s hs => by
    by_cases e : s = t
    · rw [e, va_up_self]
    · rw [va_up_ne _ _ e]; exact hs
  refine ⟨fun s => ?_, fun s hs => ?_, fun s hs hb => keep s (h3 s hs hb), fun x hx => ?_, ?_, fun s hs => ?_⟩
  · by_cases e : s = t
    · rw [e, va_up_self]; exact Or.inl rfl
    · rw [va_up_ne _ _ e]; exact h1 s
  · by_cases e : s = t
    · rw [e]; exact hg
    · rw [va_up_ne _ _ e] at hs; exact h2 s hs
  · rcases List.mem_append.mp hx with z | z
    · exact ⟨(h4 x z).1, keep _ (h4 x z).2.1, (h4 x z).2.2⟩
    · simp at z
      subst z
      exact ⟨rfl, va_up_self _ _ _, ht⟩
  · rw [List.map_append]
    refine List.nodup_append.mpr ⟨h5, by simp, fun a ha b hb e => ?_⟩
    simp at hb
    obtain ⟨y, hy, ey⟩ := List.mem_map.mp ha
    have := (h4 y hy).2.1
    rw [ey, e, hb] at this
    omega
  · by_cases e : s = t
    · exact ⟨M.length, by rw [e]; simp⟩
    · rw [va_up_ne _ _ e] at hs
      obtain ⟨i, hi⟩ := h6 s hs
      exact ⟨i, by rw [List.getElem?_append_left (List.getElem?_eq_some_iff.mp hi).1]; exact hi⟩
theorem gI.lng (h : gI len siz n l p B S c M) : M.length ≤ S := by
  have := few S (M.map Prod.fst) h.2.2.2.2.1 (fun x hx => by
    obtain ⟨a, ha, rfl⟩ := List.mem_map.mp hx
    exact (h.2.2.2.1 a ha).2.2)
  simpa using this
/-- all goals are in: the search may begin -/
theorem gI.srch (h : gI len siz n l p B S c M) (hB : ∀ s, gC len siz n l p s → s < B) : srch (gC len siz n l p) (eC len siz ded n) S 0 c [] M 0 0 (fun _ => False) := by
  obtain ⟨h1, h2, h3, h4, h5, h6⟩ := h
  refine ⟨fun s hs => h3 s hs (hB s hs), fun s hs => ?_, ⟨fun i j a b _ ha => by simp at ha, fun a ha => by simp at ha, List.nodup_nil⟩, ⟨fun i j a b _ ha hb => ?_, fun a ha => ?_, h5⟩, Nat.zero_le _, Nat.zero_le _, fun s hs _ => ?_⟩
  · have : c s = 0 := by rcases h1 s with z | z <;> omega
    exact ⟨0, h2 s this, this⟩
  · rw [(h4 a (List.mem_of_getElem? ha)).1]; exact Nat.zero_le _
  · have := h4 a ha
    omega
  · have hc : c s = 0 := by rcases h1 s with z | z <;> omega
    obtain ⟨i, hi⟩ := h6 s hc
    exact Or.inr ⟨Nat.zero_le _, Or.inr ⟨i, Nat.zero_le _, by rw [hc]; exact hi⟩⟩
/-- the twelve angles of a goal -/
theorem t1_goal12 (hS4 : S ≤ 4032) {j : Nat} (hj : 12 * j + 12 ≤ S) (hg : ∀ e, e < 12 → gC len siz n l p (12 * j + e)) {X0 : Int32 → Mu → Prop} (hX : ∀ m' c' M', gI len siz n l p (12 * (j + 1)) S c' M' → seM S c' [] M' 0 0 m' → imS m m' → X0 (nI (12 * (j + 1))) m') : ∀ d e c M m1, e + d = 12 → gI len siz n l p (12 * j + e) S c M → seM S c [] M 0 0 m1 → imS m m1 → lpX1_addGoals_46 K X0 (d + 1) (nI (12 * j)) (nI e) m1 := by
  intro d
  induction d with
  | zero =>
    intro e c M m1 he hI hSe hS
    have e12 : e = 12 := by omega
    subst e12
    unfold lpX1_addGoals_46
    refine pk_le 12 12 (fun _ x9 e9 => ?_) (fun z => absurd z (by omega))
    rw [e9, show (12 : Int32) = nI 12 from rfl, nI_add]
    exact hX m1 c M hI hSe hS
  | succ d ih =>
    intro e c M m1 he hI hSe hS
    have step : ∀ c' M', gI len siz n l p (12 * j + e) S c' M' → c' (12 * j + e) = 0 → gI len siz n l p (12 * j + (e + 1)) S c' M' := fun c' M' h h0 => h.more (fun s hs h1 h2 => by
      have : s = 12 * j + e := by omega
      rw [this]; exact h0)
    unfold lpX1_addGoals_46
    refine pk_le 12 e (fun z => absurd z (by omega)) (fun _ => ?_)
    rw [nI_add]
    refine t1_imp_m (q := 0) hSe (by omega) hS4 (by decide) (Nat.zero_le _) (fun h0 => ?_) (fun h0 x11 e11 => ?_) (fun h0 m' hSe' hI' x11 e11 => ?_)
    · have := (hI.add (by omega) (hg e (by omega)) h0).lng
      simp at this
      omega
    · rw [e11, nI_1]
      exact ih (e + 1) c M m1 (by omega) (step c M hI (by omega)) hSe hS
    · rw [e11, nI_1]
      exact ih (e + 1) _ _ m' (by omega) (step _ _ (hI.add (by omega) (hg e (by omega)) h0) (va_up_self _ _ _)) hSe' (hS.tr hI')
theorem sh0_off {P : List Nat} {q k i s : Nat} (hq : q ∉ P) : shR P k i s (fun _ => []) q = [] := shR_off hq k i s _
theorem t1_goals_loop (hs1 : ∀ l, l < n → 1 ≤ siz l) (hs20 : ∀ l, l < n → siz l ≤ 20) (hn : n ≤ 3) (h12 : 0 < len 12) (h5 : trk len 12 ≤ 5) (hp : p < 12) (hl : l < n) (hS : S = 12 * cnt (plc len 12).length n) (hgl : m 13 11 = nI l) (hgp : m 13 12 = nI p) (hA : vwA len siz ded n m) (hK : ∀ m' c M, gI len siz n l p S S c M → seM S c [] M 0 0 m' → vwA len siz ded n m' → bS m m' → K m') : ∀ d j c M m1, j + d = cnt (plc len 12).length n → gI len siz n l p (12 * j) S c M → seM S c [] M 0 0 m1 → vwA len siz ded n m1 → bS m m1 → lpX1_addGoals_2 K (d + 1) (nI (12 * j)) m1 := by
  have hS4 : S ≤ 4032 := by rw [hS]; exact (prd_cnt _ (by rw [plc_len]; omega) n (by omega)).2
  have h6 : (plc len 12).length ≤ 6 := by rw [plc_len]; omega
  intro d
  induction d with
  | zero =>
    intro j c M m1 hj hI hSe hA1 hB1
    have e : 12 * j = S := by rw [hS]; omega
    rw [e] at hI ⊢
    unfold lpX1_addGoals_2
    exact pk_le S S (fun _ => hK m1 c M hI hSe hA1 hB1) (fun z => absurd z (by omega)) (hx := hSe.2.2.2)
  | succ d ih =>
    intro j c M m1 hj hI hSe hA1 hB1
    unfold lpX1_addGoals_2
    refine pk_le S (12 * j) (fun z => absurd z (by omega)) (fun _ => ?_) (hx := hSe.2.2.2)
    refine t1_show (siz := siz) (n := n) hA1.1 plc_nodup plc_ne h6 plc_13 hA1.2.2.2.1 hn (fun l hl => (hA1.2.2.1 l hl).1) (by omega) (fun m2 hB2 hS2 => ?_)
    rw [show 12 * j / 12 = j by omega] at hB2
    obtain ⟨w1, w2⟩ := show_all (P := plc len 12) (n := n) (s := j) plc_nodup plc_ne h6 hn (by omega)
    generalize hR : shR (plc len 12) n 0 j (fun _ => []) = R at hB2 w1 w2
    have hoff : ∀ q, q ∉ plc len 12 → R q = [] := fun q hq => by rw [← hR]; exact sh0_off hq
    have hSe2 : seM S c [] M 0 0 m2 := hSe.lS hS2.n.l
    have hA2 := hA1.lS hS2.n.l
    have hB12 := hB1.tr hS2.n.l.b
    rw [show m2 13 12 = nI p from hB12.2.2.trans hgp, show m2 13 11 = nI l from hB12.2.1.trans hgl]
    have hmem : ∀ q x, x ∈ R q → q ∈ plc len 12 ∧ x < n := fun q x hx => by
      have hq : q ∈ plc len 12 := by
        by_cases h : q ∈ plc len 12
        · exact h
        · rw [hoff q h] at hx; simp at hx
      exact ⟨hq, w1.2.1 (x + 1) (flt_mem.mpr (List.mem_flatMap.mpr ⟨q, hq, hx⟩))⟩
    have hrl : (R p).length ≤ 8 := (hB2 p (by omega)).2.2.1
    have goalOf : ∀ s, gC len siz n l p s → s < 12 * (j + 1) → 12 * j ≤ s → (R p)[0]? = some l ∧ ∀ q, q < 13 → sm siz (R q) ≤ len q := fun s ⟨a, va, ga, ea⟩ h1 h2 => by
      have ha := va.1.2.2.2.2.2.1
      have e1 : dig (flt a.2 (plc len 12)) (plc len 12).length 0 n = j := by
        unfold fC at ea
        omega
      have e2 := show_of plc_nodup plc_ne (sV_F hs1 va) (sV_off hs1 va)
      rw [e1, hR] at e2
      rw [e2]
      exact ⟨ga, va.1.2.2.2.2.1⟩
    have skip : ¬ ((R p)[0]? = some l ∧ ∀ q, q < 13 → sm siz (R q) ≤ len q) → lpX1_addGoals_2 K (d + 1) (nI (12 * j) + (12 : Int32)) m2 := fun hno => by
      rw [show (12 : Int32) = nI 12 from rfl, nI_add]
      refine ih (j + 1) c M m2 (by omega) (hI.more (fun s hs h1 h2 => absurd (goalOf s hs h1 h2) hno)) hSe2 hA2 hB12
    have fit : (R p)[0]? = some l → wX3_allFit (mu_sub m2 20) (fun r5 : Int32 => ((r5 = 0 → ∀ x7 : Int32, x7 = nI (12 * j) + (12 : Int32) → lpX1_addGoals_2 K (d + 1) x7 m2) ∧ (¬ r5 = 0 → (∃ n12 : Nat, lpX1_addGoals_46 K (fun a0 mm => lpX1_addGoals_2 K (d + 1) a0 mm) n12 (nI (12 * j)) (0 : Int32) m2)))) := fun hg0 => by
      refine t_allFit hA2.2 hB2 (fun q _ x hx => hs20 x (hmem q x hx).2) (fun hfit => ⟨fun z => absurd z (by decide), fun _ => ⟨13, ?_⟩⟩) (fun hfit => ⟨fun _ x7 e7 => ?_, fun z => absurd rfl z⟩)
      · have hgg : ∀ e, e < 12 → gC len siz n l p (12 * j + e) := fun e he => by
          refine ⟨(e, R), ⟨wf_ofF w1 plc_13 hoff hfit he (by omega) h12, fun q hq => hoff q (fun z => by have := plc_13 q z; omega)⟩, hg0, ?_⟩
          show dig (flt R (plc len 12)) (plc len 12).length 0 n * 12 + e = _
          rw [w2]; omega
        refine t1_goal12 (m := m2) hS4 (by omega) hgg (fun m' c' M' hI' hSe' hS' => ?_) 12 0 c M m2 (by omega) hI hSe2 imS.rf
        exact ih (j + 1) c' M' m' (by omega) hI' hSe' (hA2.imS hS') (hB12.tr hS'.b)
      · rw [e7]; exact skip (fun z => hfit z.2)
    rcases hx0 : (R p) with _ | ⟨x, xs⟩
    · refine t_locAt_out (i := 0) (c := 0) (by omega) ?_ (by decide) (by decide) (by decide) ⟨fun z => absurd z.symm (ne_m11 (by omega)), fun _ x13 e13 => ?_⟩
      · rw [(hB2 p (by omega)).1, hx0]; rfl
      · rw [e13]; exact skip (fun z => by rw [hx0] at z; simp at z)
    · have hg : (R p)[0]? = some x := by rw [hx0]; rfl
      obtain ⟨g1, g2, g3⟩ := (hB2 p (by omega)).2.2.2 0 x hg
      refine t_locAt (i := 0) (by omega) (hB2 p (by omega)).1 hrl (by rw [hx0]; simp) ?_
      rw [g1]
      refine pk_eq x l (fun e => fit (by rw [hg, e])) (fun e x13 e13 => ?_)
      rw [e13]; exact skip (fun z => by rw [hg] at z; exact e (Option.some.inj z.1))
/-- the planner, aimed -/
def cSt (len siz : Nat → Nat) (ded : Nat → Bool) (n l p : Nat) (m : Mu) : Prop := vwA len siz ded n m ∧ m 13 11 = nI l ∧ m 13 12 = nI p ∧ ∃ c T M hT hM lv, srch (gC len siz n l p) (eC len siz ded n) (12 * cnt (plc len 12).length n) lv c T M hT hM (fun _ => False) ∧ seM (12 * cnt (plc len 12).length n) c T M hT hM m
theorem cSt.keep {m m' : Mu} (h : cSt len siz ded n l p m) (e : ∀ a, a < 50 → m' a = m a) : cSt len siz ded n l p m' := by
  obtain ⟨h1, h2, h3, c, T, M, hT, hM, lv, h4, h5⟩ := h
  have e13 := e 13 (by decide)
  refine ⟨h1.keep (e 1 (by decide)) (congrFun e13 8) (e 20 (by decide)) (e 24 (by decide)) (congrFun (e 28 (by decide)) 5) (congrFun (e 28 (by decide)) 6), (congrFun e13 11).trans h2, (congrFun e13 12).trans h3, c, T, M, hT, hM, lv, h4, h5.keep (fun a ha => e a (by omega)) (congrFun e13 9)⟩
theorem t1_aim87 (hs1 : ∀ l, l < n → 1 ≤ siz l) (hs20 : ∀ l, l < n → siz l ≤ 20) (hn : n ≤ 3) (h12 : 0 < len 12) (h5 : trk len 12 ≤ 5) (hp : p < 12) (hl : l < n) (hgl : m 13 11 = nI l) (hgp : m 13 12 = nI p) (hA : vwA len siz ded n m) (h9 : m 13 9 = nI (12 * cnt (plc len 12).length n)) (hK : ∀ m', cSt len siz ded n l p m' → (∀ a, 50 ≤ a → m' a = m a) → K m') : jnX1_aimAt_87 K m := by
  intro m11 e11 k1 ek1 k12 ek12 m13 e13 k2 ek2 k14 ek14 m15 e15
  have a11 : ∀ a, a ≠ 5 → m11 a = m a := fun a ha => by rw [e11, pu_ne _ _ ha]
  have kk12 : ∀ a, a ≠ 3 → k12 a = mu_sub m11 30 a := fun a ha => by rw [ek12, pu_upn _ _ _ ha, ek1, pu_upn _ _ _ ha]
  have k123 : k12 3 1 = 0 ∧ k12 3 2 = 0 := by
    rw [ek12, pu_up, pu_un _ _ (by decide), pu_u, ek1, pu_up, pu_u]; exact ⟨rfl, rfl⟩
  have a13 : ∀ a, a ≠ 33 → m13 a = m11 a := fun a ha => by
    rw [e13]
    by_cases h : 30 ≤ a ∧ a < 34
    · obtain ⟨x, rfl⟩ : ∃ x, a = 30 + x := ⟨a - 30, by omega⟩
      rw [put_in (by omega), kk12 x (by omega)]; rfl
    · exact put_out (by omega)
  have q33 : m13 33 = k12 3 := by rw [e13]; exact put_in (o := 30) (a := 3) (by decide)
  have kk14 : ∀ a, a ≠ 3 → k14 a = mu_sub m13 40 a := fun a ha => by rw [ek14, pu_upn _ _ _ ha, ek2, pu_upn _ _ _ ha]
  have k143 : k14 3 1 = 0 ∧ k14 3 2 = 0 := by
    rw [ek14, pu_up, pu_un _ _ (by decide), pu_u, ek2, pu_up, pu_u]; exact ⟨rfl, rfl⟩
  have a15 : ∀ a, a ≠ 43 → m15 a = m13 a := fun a ha => by
    rw [e15]
    by_cases h : 40 ≤ a ∧ a < 44
    · obtain ⟨x, rfl⟩ : ∃ x, a = 40 + x := ⟨a - 40, by omega⟩
      rw [put_in (by omega), kk14 x (by omega)]; rfl
    · exact put_out (by omega)
  have q43 : m15 43 = k14 3 := by rw [e15]; exact put_in (o := 40) (a := 3) (by decide)
  have all : ∀ a, a ≠ 5 → a ≠ 33 → a ≠ 43 → m15 a = m a := fun a h1 h2 h3 => by rw [a15 a h3, a13 a h2, a11 a h1]
  have e5 : m15 5 = am_fill 4032 (1000000000 : Int32) (m 5) := by rw [a15 5 (by decide), a13 5 (by decide), e11, pu_same]
  have e13 : m15 13 = m 13 := all 13 (by decide) (by decide) (by decide)
  refine ⟨cnt (plc len 12).length n + 1, ?_⟩
  have hA15 : vwA len siz ded n m15 := hA.keep (all 1 (by decide) (by decide) (by decide)) (congrFun e13 8) (all 20 (by decide) (by decide) (by decide)) (all 24 (by decide) (by decide) (by decide)) (congrFun (all 28 (by decide) (by decide) (by decide)) 5) (congrFun (all 28 (by decide) (by decide) (by decide)) 6)
  refine t1_goals_loop (m := m15) hs1 hs20 hn h12 h5 hp hl rfl (by rw [e13]; exact hgl) (by rw [e13]; exact hgp) hA15 (fun k16 c M hI hSe hA16 hB16 m17 e17 => ?_) (cnt (plc len 12).length n) 0 (fun _ => 1000000000) [] m15 (by omega) ?_ ?_ hA15 bS.rf
  · rw [put50 hB16.1] at e17
    subst e17
    refine hK m17 ⟨hA16, by rw [hB16.2.1, e13]; exact hgl, by rw [hB16.2.2, e13]; exact hgp, c, [], M, 0, 0, 0, hI.srch (fun s hs => ?_), hSe⟩ (fun a ha => (hB16.1 a ha).trans (all a (by omega) (by omega) (by omega)))
    obtain ⟨a, va, ga, ea⟩ := hs
    rw [← ea]
    exact (fC_lt hs1 hn h5 va).1
  · exact ⟨fun s => Or.inr rfl, fun s hs => absurd (show 1000000000 = 0 from hs) (by decide), fun s _ hs => absurd hs (by omega), fun x hx => by simp at hx, List.nodup_nil, fun s hs => absurd (show 1000000000 = 0 from hs) (by decide)⟩
  · refine ⟨⟨fun s hs => ?_, fun s => Nat.le_refl _, fun s hs => absurd (show 1000000000 < 1000000000 from hs) (by decide)⟩, ⟨?_, ?_, fun i x hx => by simp at hx⟩, ⟨?_, ?_, fun i x hx => by simp at hx⟩, by rw [e13]; exact h9⟩
    · rw [e5]; unfold am_fill; rw [if_pos hs]; rfl
    · show m15 33 1 = _
      rw [a15 33 (by decide), q33, k123.1]; rfl
    · show m15 33 2 = _
      rw [a15 33 (by decide), q33, k123.2]; rfl
    · show m15 43 1 = _
      rw [q43, k143.1]; rfl
    · show m15 43 2 = _
      rw [q43, k143.2]; rfl
end AI
