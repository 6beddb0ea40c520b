/-! the reference's goals laid, and all levels -/
section LG
variable {len siz : Nat → Nat} {ded : Nat → Bool} {n ang l p : Nat} {m0 : Mu} {K : Mu → Prop}
def gqS (len siz : Nat → Nat) (n l p B : Nat) (T : List (Nat × Nat)) : Prop := (∀ x ∈ T, x.2 = 0 ∧ x.1 < 4032 ∧ gR len siz n l p x.1) ∧ (T.map Prod.fst).Nodup ∧ ∀ s, gR len siz n l p s → s < B → s ∈ T.map Prod.fst
def z0 : Nat → Nat := fun _ => 0
def glM (len siz : Nat → Nat) (ded : Nat → Bool) (n ang : Nat) (m0 : Mu) (T : List (Nat × Nat)) (m : Mu) : Prop := lvM 0 [] z0 z0 T m ∧ rfM len siz ded n ang m ∧ gS m0 m
theorem gqS.more {B B' : Nat} {T : List (Nat × Nat)} (h : gqS len siz n l p B T) (hB : ∀ s, gR len siz n l p s → s < B' → B ≤ s → s ∈ T.map Prod.fst) : gqS len siz n l p B' T := ⟨h.1, h.2.1, fun s hs hb => by
  by_cases e : s < B
  · exact h.2.2 s hs e
  · exact hB s hs hb (by omega)⟩
theorem gqS.len4 {B : Nat} {T : List (Nat × Nat)} (h : gqS len siz n l p B T) : T.length ≤ 4032 := by
  have := few 4032 (T.map Prod.fst) h.2.1 (fun x hx => by
    obtain ⟨a, ha, rfl⟩ := List.mem_map.mp hx
    exact (h.1 a ha).2.1)
  simpa using this
theorem gqS.add {B t : Nat} {T : List (Nat × Nat)} (h : gqS len siz n l p B T) (ht : t < 4032) (hg : gR len siz n l p t) (hno : t ∉ T.map Prod.fst) : gqS len siz n l p B (T ++ [(t, 0)]) := by
  refine ⟨fun x hx => ?_, ?_, fun s hs hb => ?_⟩
  · rcases List.mem_append.mp hx with z | z
    · exact h.1 x z
    · simp at z; subst z; exact ⟨rfl, ht, hg⟩
  · rw [List.map_append]
    refine List.nodup_append.mpr ⟨h.2.1, by simp, fun a ha b hb e => ?_⟩
    simp at hb
    subst hb
    subst e
    exact hno ha
  · rw [List.map_append]; exact List.mem_append_left _ (h.2.2 s hs hb)
theorem lvM.lo {L : Nat} {A : List Nat} {tu ac : Nat → Nat} {T : List (Nat × Nat)} {m m' : Mu} (h : lvM L A tu ac T m) (e : loS m m') : lvM L A tu ac T m' := by
  obtain ⟨h3, h4, h5, h6⟩ := h
  have g : ∀ x, x ≠ 16 → x ≠ 17 → x ≠ 32 → m' x = m x := e.1
  refine ⟨fun s hs => ?_, ⟨?_, fun i x hx => ?_⟩, fun s hs => ?_, fun s hs => ?_⟩
  · rw [g 21 (by decide) (by decide) (by decide), g 19 (by decide) (by decide) (by decide), g 20 (by decide) (by decide) (by decide)]; exact h3 s hs
  · rw [e.2 29 (by decide)]; exact h4.1
  · rw [g 22 (by decide) (by decide) (by decide), g 25 (by decide) (by decide) (by decide)]; exact h4.2 i x hx
  · rw [g 27 (by decide) (by decide) (by decide)]; exact h5 s hs
  · rw [g 28 (by decide) (by decide) (by decide)]; exact h6 s hs
theorem t5_lg_107 {X0 : Int32 → Int32 → Int32 → Mu → Prop} {X1 : Int32 → Int32 → Int32 → Int32 → Mu → Prop} {v1 v2 v3 : Int32} {w b : Nat} (hb : b + 12 ≤ 4032) (hg : ∀ e, e < 12 → gR len siz n l p (b + e)) (hX : ∀ T m, gqS len siz n l p (b + 12) T → glM len siz ded n ang m0 T m → X1 v1 v2 v3 (nI (w + 1)) m) : ∀ d e T m, e + d = 12 → gqS len siz n l p (b + e) T → glM len siz ded n ang m0 T m → lpX5_layGoals_107 K X0 X1 (d + 1) v1 v2 v3 (nI w) (nI b) 1 (nI e) m := by
  intro d
  induction d with
  | zero =>
    intro e T m he hq hM
    have e12 : e = 12 := by omega
    subst e12
    unfold lpX5_layGoals_107
    refine pk_le 12 12 (fun _ x11 e11 => ?_) (fun z => absurd z (by omega))
    rw [e11, nI_1]; exact hX T m hq hM
  | succ d ih =>
    intro e T m he hq hM
    obtain ⟨⟨r1, r2, r5, r6⟩, hrf, hgS⟩ := id hM
    unfold lpX5_layGoals_107
    refine pk_le 12 e (fun z => absurd z (by omega)) (fun _ => ⟨fun z => absurd z (by decide), fun _ => ?_⟩)
    rw [nI_add]
    refine t5_addT (y := 0) (L := 0) (show b + e < 4032 by omega) (by decide) r1 r2 r5 (fun _ hno => ?_) (fun hin x15 e15 => ?_) (fun _ hno m' q1 q2 q3 x15 e15 => ?_)
    · have := (hq.add (by omega) (hg e (by omega)) hno).len4
      simp at this
      omega
    · rw [e15, nI_1]
      refine ih (e + 1) T m (by omega) (hq.more (fun s hs h1 h2 => ?_)) hM
      have : s = b + e := by omega
      rw [this]
      rcases hin with z | z
      · simp at z
      · exact z
    · rw [e15, nI_1]
      have g := q3.1
      refine ih (e + 1) _ m' (by omega) ((hq.add (by omega) (hg e (by omega)) hno).more (fun s hs h1 h2 => ?_)) ⟨⟨fun s hs => ?_, q1, q2, fun s hs => ?_⟩, hrf.g q3.g, hgS.tr q3.g⟩
      · have : s = b + e := by omega
        rw [this]; simp
      · rw [g 21 (by decide) (by decide) (by decide) (by decide), g 19 (by decide) (by decide) (by decide) (by decide), g 20 (by decide) (by decide) (by decide) (by decide)]; exact r1 s hs
      · rw [g 28 (by decide) (by decide) (by decide) (by decide)]; exact r6 s hs
theorem t5_lg_54 {X0 : Int32 → Int32 → Int32 → Mu → Prop} {o : Nat} (hs1 : ∀ l, l < n → 1 ≤ siz l) (hn : n ≤ 3) (h12 : 0 < len 12) (h5 : trk len 12 ≤ 5) (hp : p < 12) (hpl : 0 < len p) (hl : l < n) (ho : o < fb_ct (vo n) (4 ^ n)) (hX : ∀ T m, gqS len siz n l p ((o + 1) * 56 * 12) T → glM len siz ded n ang m0 T m → X0 (nI l) (nI p) (nI (o + 1)) m) : ∀ d w T m, w + d = fb_ct (vw n) 15625 → gqS len siz n l p ((o * 56 + w) * 12) T → glM len siz ded n ang m0 T m → lpX5_layGoals_54 K X0 (d + 1) (nI l) (nI p) (nI o) (nI w) m := by
  have ho6 := vo_bound n (by omega)
  have hw56 := vw_bound hn
  obtain ⟨c, hc, hv, ec⟩ := fb_ct_kth ho
  intro d
  induction d with
  | zero =>
    intro w T m hw hq hM
    have e : w = fb_ct (vw n) 15625 := by omega
    unfold lpX5_layGoals_54
    refine pk_le (fb_ct (vw n) 15625) w (fun _ x5 e5 => ?_) (fun z => absurd z (by omega)) (hx := hM.2.1.2.2.2.1)
    rw [e5, nI_1]
    refine hX T m (hq.more (fun s hs h1 h2 => ?_)) hM
    obtain ⟨a, hV, -, ea⟩ := hs
    obtain ⟨g1, g2, g3, g4, g5, g6⟩ := codes_of plc_ne (by rw [plc_len]; omega) hn (sV_F hs1 hV)
    have w1 := ct_lt g5 g4
    have ha := hV.1.2.2.2.2.2.1
    unfold fR at ea
    omega
  | succ d ih =>
    intro w T m hw hq hM
    obtain ⟨wc, hwc, hvw, ewc⟩ := fb_ct_kth (show w < fb_ct (vw n) 15625 by omega)
    unfold lpX5_layGoals_54
    refine pk_le (fb_ct (vw n) 15625) w (fun z => absurd z (by omega)) (fun _ x6 e6 => ?_) (hx := hM.2.1.2.2.2.1)
    rw [show (56 : Int32) = nI 56 from rfl, show (12 : Int32) = nI 12 from rfl, pk_mul, nI_add, pk_mul] at e6
    rw [e6]
    have enum : (o * 56 + w) * 12 = (fb_ct (vo n) c * 56 + fb_ct (vw n) wc) * 12 + 0 := by rw [ec, ewc]; rfl
    rw [enum]
    refine t5_layOut (n := n) hn hM.2.1.2.2.1 hM.2.1.2.2.2 hc hv hwc hvw (by decide) (fun m7 hR7 _ hS7 => ?_)
    have hM7 : glM len siz ded n ang m0 T m7 := ⟨hM.1.lo hS7, hM.2.1.lo hS7, hM.2.2.tr hS7.g⟩
    obtain ⟨v1, v2, v3⟩ := (vo_iff hn hc).mp hv
    have hrow : ∀ r, r < 6 → ∀ x ∈ sg (dl 4 n c) (dl 5 6 wc) r, x < n := fun r _ x hx => v2 x (List.mem_of_mem_drop (List.mem_of_mem_take hx))
    have back : ∀ s, gR len siz n l p s → (o * 56 + w) * 12 ≤ s → s < (o * 56 + (w + 1)) * 12 → (∀ r, r < 6 → cbR len siz (sg (dl 4 n c) (dl 5 6 wc)) r) ∧ (sg (dl 4 n c) (dl 5 6 wc) (rowOf len p))[0]? = some l := fun s ⟨a, hV, hg, ea⟩ h1 h2 => by
      have hr := sit_rows hs1 hn h5 hc hv hwc hvw hV (by rw [ea, ec, ewc]; omega)
      have hpx := plc_at hp hpl
      have ht := (List.getElem?_eq_some_iff.mp hpx).1
      rw [plc_len] at ht
      refine ⟨fun r hr6 => ?_, ?_⟩
      · unfold cbR
        rw [hr r hr6]
        cases hq : (plc len 12)[r]? with
        | none => exact Or.inl (by unfold rws; rw [hq])
        | some q => exact Or.inr ⟨q, rfl, by rw [rws_at hq]; exact hV.1.2.2.2.2.1 q (plc_13 q (List.mem_of_getElem? hq))⟩
      · rw [hr _ (by omega), rws_at hpx]; exact hg
    have next : (¬ ((∀ r, r < 6 → cbR len siz (sg (dl 4 n c) (dl 5 6 wc)) r) ∧ (sg (dl 4 n c) (dl 5 6 wc) (rowOf len p))[0]? = some l)) → ∃ n16 : Nat, lpX5_layGoals_107 K (fun a0 a1 a2 mm => X0 a0 a1 a2 mm) (fun a0 a1 a2 a3 mm => lpX5_layGoals_54 K X0 (d + 1) a0 a1 a2 a3 mm) n16 (nI l) (nI p) (nI o) (nI w) (nI ((fb_ct (vo n) c * 56 + fb_ct (vw n) wc) * 12 + 0)) (0 : Int32) (0 : Int32) m7 := fun hno => by
      refine ⟨1, pk_le 12 0 (fun z => absurd z (by omega)) (fun _ => ⟨fun _ x13 e13 => ?_, fun z => absurd rfl z⟩)⟩
      rw [e13, nI_1]
      refine ih (w + 1) T m7 (by omega) (hq.more (fun s hs h1 h2 => ?_)) hM7
      exact absurd (back s hs h2 h1) hno
    refine t5_canBe hM7.2.1.1 hM7.2.1.2.1 h5 hR7 hrow (fun hcb => ⟨fun z => absurd z (by decide), fun _ => ?_⟩) (fun hcb => ⟨fun _ => next (fun z => hcb z.1), fun z => absurd rfl z⟩)
    refine t5_isGoal hM7.2.1.2.1 h5 hR7 hp hpl (by omega) (fun r hr x hx => by have := hrow r hr x hx; omega) (fun hgl => ⟨fun z => absurd z (by decide), fun _ => ⟨13, ?_⟩⟩) (fun hgl => ⟨fun _ => next (fun z => hgl z.2), fun z => absurd rfl z⟩)
    have h3 := ct_lt hvw hwc
    have hgg : ∀ e, e < 12 → gR len siz n l p ((fb_ct (vo n) c * 56 + fb_ct (vw n) wc) * 12 + 0 + e) := fun e he => by
      obtain ⟨s1, s2, s3⟩ := sit_of (siz := siz) (x := e) hn h5 h12 hc hv hwc hvw he hcb
      refine ⟨_, s1, ?_, by rw [s2, Nat.add_zero]⟩
      show (rowP (plc len 12) (sg (dl 4 n c) (dl 5 6 wc)) p)[0]? = some l
      rw [s3 _ p (plc_at hp hpl)]; exact hgl
    refine t5_lg_107 (l := l) (p := p) (siz := siz) (len := len) (n := n) (ded := ded) (ang := ang) (m0 := m0) (by omega) hgg (fun T' m' hq' hM' => ih (w + 1) T' m' (by omega) ?_ hM') 12 0 T m7 (by decide) ?_ hM7
    · rw [← enum] at hq'
      rw [show (o * 56 + (w + 1)) * 12 = (o * 56 + w) * 12 + 12 by omega]; exact hq'
    · rw [← enum]; exact hq
theorem t5_lg_43 (hs1 : ∀ l, l < n → 1 ≤ siz l) (hn : n ≤ 3) (h12 : 0 < len 12) (h5 : trk len 12 ≤ 5) (hp : p < 12) (hpl : 0 < len p) (hl : l < n) (hK : ∀ T m, gqS len siz n l p 4032 T → glM len siz ded n ang m0 T m → K m) : ∀ d o T m, o + d = fb_ct (vo n) (4 ^ n) → gqS len siz n l p (o * 56 * 12) T → glM len siz ded n ang m0 T m → lpX5_layGoals_43 K (d + 1) (nI l) (nI p) (nI o) m := by
  have ho6 := vo_bound n (by omega)
  intro d
  induction d with
  | zero =>
    intro o T m ho hq hM
    unfold lpX5_layGoals_43
    refine pk_le (fb_ct (vo n) (4 ^ n)) o (fun _ => hK T m (hq.more (fun s hs h1 h2 => ?_)) hM) (fun z => absurd z (by omega)) (hx := hM.2.1.2.2.1.1)
    obtain ⟨a, hV, -, ea⟩ := hs
    obtain ⟨g1, g2, g3, g4, g5, g6⟩ := codes_of plc_ne (by rw [plc_len]; omega) hn (sV_F hs1 hV)
    have w1 := ct_lt g5 g4
    have w2 := ct_lt g2 g1
    have w3 := vw_bound hn
    have ha := hV.1.2.2.2.2.2.1
    unfold fR at ea
    omega
  | succ d ih =>
    intro o T m ho hq hM
    unfold lpX5_layGoals_43
    refine pk_le (fb_ct (vo n) (4 ^ n)) o (fun z => absurd z (by omega)) (fun _ => ⟨fb_ct (vw n) 15625 + 1, ?_⟩) (hx := hM.2.1.2.2.1.1)
    exact t5_lg_54 (m0 := m0) (ang := ang) (ded := ded) hs1 hn h12 h5 hp hpl hl (by omega) (fun T' m' hq' hM' => ih (o + 1) T' m' (by omega) hq' hM') (fb_ct (vw n) 15625) 0 T m (by omega) hq hM
theorem t5_lg_7 {v1 v2 : Int32} {m : Mu} (hM : rfM len siz ded n ang m) (h29 : m 32 29 = 0) (hK : ∀ m', glM len siz ded n ang m [] m' → ∃ n22 : Nat, lpX5_layGoals_43 K n22 v1 v2 (0 : Int32) m') : ∀ d j m1, j + d = 4032 → gS m m1 → m1 32 29 = 0 → (∀ s, s < j → m1 21 s = 0 ∧ m1 27 s = -1 ∧ m1 28 s = -1) → lpX5_layGoals_7 K (d + 1) v1 v2 (nI j) m1 := by
  intro d
  induction d with
  | zero =>
    intro j m1 hj hg h29' hs
    have e : j = 4032 := by omega
    subst e
    unfold lpX5_layGoals_7
    refine pk_le 4032 4032 (fun _ => hK m1 ⟨⟨fun s h => Or.inl ⟨(hs s h).1, by simp⟩, ⟨h29', fun i x hx => by simp at hx⟩, fun s h => Or.inr ⟨by simp, Or.inl (hs s h).2.1⟩, fun s h => Or.inr ⟨by simp, Or.inl (hs s h).2.2⟩⟩, hM.g hg, hg⟩) (fun z => absurd z (by omega))
  | succ d ih =>
    intro j m1 hj hg h29' hs
    unfold lpX5_layGoals_7
    rw [nI_clamp (by omega), show vp_nar .boolean (0 : Int32) = 0 from by decide]
    refine pk_le 4032 j (fun z => absurd z (by omega)) (fun _ => ⟨pk_in j 4032 (by omega), fun m23 e23 => ⟨pk_in j 4032 (by omega), fun m24 e24 => ⟨pk_in j 4032 (by omega), fun m25 e25 x26 e26 => ?_⟩⟩⟩)
    have g : ∀ a, a ≠ 21 → a ≠ 27 → a ≠ 28 → m25 a = m1 a := fun a x1 x2 x3 => by rw [e25, pu_upn _ _ _ x3, e24, pu_upn _ _ _ x2, e23, pu_upn _ _ _ x1]
    have p21 : m25 21 = upd (m1 21) j 0 := by rw [e25, pu_upn _ _ _ (by decide), e24, pu_upn _ _ _ (by decide), e23, pu_up]
    have p27 : m25 27 = upd (m1 27) j (-1) := by rw [e25, pu_upn _ _ _ (by decide), e24, pu_up, e23, pu_upn _ _ _ (by decide)]
    have p28 : m25 28 = upd (m1 28) j (-1) := by rw [e25, pu_up, e24, pu_upn _ _ _ (by decide), e23, pu_upn _ _ _ (by decide)]
    rw [e26, nI_1]
    refine ih (j + 1) m25 (by omega) (hg.tr ⟨fun a ha => g a (by omega) (by omega) (by omega), fun i _ => congrFun (g 32 (by decide) (by decide) (by decide)) i⟩) (by rw [g 32 (by decide) (by decide) (by decide)]; exact h29') (fun s hs' => ?_)
    rw [p21, p27, p28]
    by_cases e : s = j
    · rw [e, pu_u, pu_u, pu_u]; exact ⟨rfl, rfl, rfl⟩
    · rw [pu_un _ _ e, pu_un _ _ e, pu_un _ _ e]; exact hs s (by omega)
theorem t5_layGoals {m : Mu} (hs1 : ∀ l, l < n → 1 ≤ siz l) (hn : n ≤ 3) (h12 : 0 < len 12) (h5 : trk len 12 ≤ 5) (hp : p < 12) (hpl : 0 < len p) (hl : l < n) (hM : rfM len siz ded n ang m) (hK : ∀ T m', gqS len siz n l p 4032 T → lvM 0 [] z0 z0 T m' → rfM len siz ded n ang m' → gS m m' → K m') : wX5_layGoals (nI l) (nI p) m K := by
  intro m1 e1
  have hg : gS m m1 := ⟨fun a ha => by rw [e1, pu_upn _ _ _ (by omega)], fun i hi => by rw [e1, pu_up, pu_un _ _ (by omega)]⟩
  refine ⟨4033, t5_lg_7 (hM.g hg) (by rw [e1, pu_up, pu_u]) (fun m' hM' => ⟨fb_ct (vo n) (4 ^ n) + 1, ?_⟩) 4032 0 m1 (by decide) gS.rf (by rw [e1, pu_up, pu_u]) (fun s hs => absurd hs (by omega))⟩
  exact t5_lg_43 (m0 := m1) (ang := ang) (ded := ded) hs1 hn h12 h5 hp hpl hl (fun T m'' hq hM'' => hK T m'' hq hM''.1 hM''.2.1 (hg.tr hM''.2.2)) (fb_ct (vo n) (4 ^ n)) 0 [] m' (by omega) ⟨fun x hx => by simp at hx, List.nodup_nil, fun s _ hs => absurd hs (by omega)⟩ hM'
theorem gqS.lv {T : List (Nat × Nat)} (hs1 : ∀ l, l < n → 1 ≤ siz l) (hn : n ≤ 3) (h5 : trk len 12 ≤ 5) (h : gqS len siz n l p 4032 T) : lvS (gR len siz n l p) (eR len siz ded n) 4032 0 0 [] z0 z0 T [] 0 0 [] (fun _ => False) := by
  obtain ⟨h1, h2, h3⟩ := h
  refine ⟨⟨List.nodup_nil, fun s hs => by simp at hs⟩, fun s hs => by simp at hs, ⟨⟨fun i j a b _ ha hb => ?_, h2, fun x hx => ?_⟩, ⟨fun i j a b _ ha => by simp at ha, List.nodup_nil, fun x hx => by simp at hx⟩, fun x hx => by simp at hx⟩, ⟨Nat.zero_le _, Nat.zero_le _, fun i x _ _ => Nat.zero_le _, fun i x _ _ => Nat.zero_le _⟩, ⟨fun i x hi => absurd hi (by omega), fun i x hi => absurd hi (by omega)⟩, fun s hs => by simp at hs, fun s hs => by simp at hs, fun g hg => ?_, ⟨fun s hs => by simp at hs, fun s hs => by simp at hs, List.nodup_nil, fun i j a b _ ha => by simp at ha⟩⟩
  · rw [(h1 a (List.mem_of_getElem? ha)).1]; exact Nat.zero_le _
  · obtain ⟨a1, a2, a3⟩ := h1 x hx
    rw [a1]
    exact ⟨a2, Nat.zero_le _, 0, a3, rfl⟩
  · have hgN : g < 4032 := by
      obtain ⟨a, hV, -, ea⟩ := hg
      rw [← ea]; exact fR_lt hs1 hn h5 hV
    obtain ⟨x, hx, ex⟩ := List.mem_map.mp (h3 g hg hgN)
    exact Or.inr (Or.inl ⟨x, hx, ex, by rw [(h1 x hx).1]; exact Nat.le_refl _⟩)
theorem t5_all_loop (hs1 : ∀ l, l < n → 1 ≤ siz l) (hn : n ≤ 3) (h5 : trk len 12 ≤ 5) (hK : ∀ A tu ac m, lvF (gR len siz n l p) (eR len siz ded n) A tu ac → dnM A tu ac m → rfM len siz ded n ang m → gS m0 m → K m) : ∀ d L A tu ac T m, 4033 ≤ A.length + d → L ≤ A.length → (∀ x ∈ T, x.1 ∉ A) → lvS (gR len siz n l p) (eR len siz ded n) 4032 L 0 A tu ac T [] 0 0 [] (fun _ => False) → lvM L A tu ac T m → rfM len siz ded n ang m → gS m0 m → lpX5_layAll_30 K d (nI L) m := by
  intro d
  induction d with
  | zero =>
    intro L A tu ac T m hd hLA hTA h hM hrf hg
    have := few 4032 A h.1.1 h.1.2
    omega
  | succ d ih =>
    intro L A tu ac T m hd hLA hTA h hM hrf hg
    have hA := few 4032 A h.1.1 h.1.2
    have lT := h.2.2.1.1.len
    unfold lpX5_layAll_30
    refine pk_le T.length 0 (fun z => ?_) (fun z => ?_) (hx := hM.2.1.1)
    · have e : T = [] := List.length_eq_zero_iff.mp (by omega)
      subst e
      exact hK A tu ac m (lv_all _ _ h hLA) hM.1 hrf hg
    · refine t5_finishLevel hs1 hn h5 (by omega) h hM hrf (fun A' tu' ac' M D m5 hE hin hR5 hrf5 hg5 hX x6 e6 m7 e7 => ⟨D.length + 1, ?_⟩)
      obtain ⟨X, eX⟩ := hX
      have h0 := List.getElem_mem z
      have hgrow : A.length + 1 ≤ A'.length := by
        have a1 := hin _ h0
        have a2 := hTA _ h0
        rw [eX] at a1
        rcases List.mem_append.mp a1 with w | w
        · exact absurd w a2
        · have := List.length_pos_of_mem w
          rw [eX, List.length_append]; omega
      have g : ∀ a, a ≠ 32 → m7 a = m5 a := fun a ha => by rw [e7, pu_upn _ _ _ ha]
      have g32 : ∀ i, i ≠ 29 → m7 32 i = m5 32 i := fun i hi => by rw [e7, pu_up, pu_un _ _ hi]
      have hg7 : gS m5 m7 := ⟨fun a ha => g a (by omega), fun i hi => g32 i (by omega)⟩
      obtain ⟨r1, r2, r3, r4, r5, r6⟩ := hR5
      rw [e6, nI_1]
      have hA' := few 4032 A' hE.1.1 hE.1.2
      refine t5_nx_loop (m0 := m0) (ang := ang) hs1 hn h5 (by omega) hE (fun T' m' hN => ?_) D.length 0 [] m7 (by omega) ⟨⟨⟨fun i j a b _ ha => by simp at ha, List.nodup_nil, fun x hx => by simp at hx⟩, fun x hx => by simp at hx, fun x hx => by simp at hx⟩, fun i s hi => absurd hi (by omega), fun s hs => ?_, ⟨by rw [e7, pu_up, pu_u]; rfl, fun i x hx => by simp at hx⟩, fun s hs => ?_, fun s hs => ?_, ⟨?_, fun i s hx => ?_⟩, hrf5.g hg7, (hg.tr hg5).tr hg7⟩
      · obtain ⟨n1, n2, n3, n4, n5, n6, n7, n8, n9⟩ := hN
        exact ih (L + 1) A' tu' ac' T' m' (by omega) (by omega) n1.2.1 (lv_next _ _ hE n1 (fun i s hs u hu => n2 i s (List.getElem?_eq_some_iff.mp hs).1 hs u hu)) ⟨n3, n4, n5, n6⟩ n8 n9
      · rw [g 21 (by decide), g 19 (by decide), g 20 (by decide)]; exact r1 s hs
      · rw [g 27 (by decide)]; exact r5.next s hs
      · rw [g 28 (by decide)]; exact r6.next s hs
      · rw [g32 31 (by decide)]; exact r4.1
      · rw [g 24 (by decide)]; exact r4.2 i s hx
/-- what laying all leaves as it was -/
def alS (m m' : Mu) : Prop := (∀ a, a < 8 → m' a = m a) ∧ ∀ i, i < 7 → m' 32 i = m 32 i
theorem t5_layAll {m : Mu} (hs1 : ∀ l, l < n → 1 ≤ siz l) (hn : n ≤ 3) (h12 : 0 < len 12) (h5 : trk len 12 ≤ 5) (hp : p < 12) (hpl : 0 < len p) (hl : l < n) (hA : aA len siz ded n ang (m 0)) (hlr : lrM len 12 m) (hK : ∀ A tu ac m', lvF (gR len siz n l p) (eR len siz ded n) A tu ac → dnM A tu ac m' → rfM len siz ded n ang m' → alS m m' → K m') : wX5_layAll (nI l) (nI p) m K := by
  unfold wX5_layAll
  rw [c14, hA.2.2.1]
  refine ⟨v148 (i := 14) (by decide), t5_layOrders hn (by omega) (fun m1 ho hS1 => ⟨v148 (i := 14) (by decide), ?_⟩)⟩
  rw [hS1.1 0 (by decide) (by decide) (by decide), hA.2.2.1]
  refine t5_layWays hn (fun m2 hw hS2 => ?_)
  have e : ∀ a, a ≠ 8 → a ≠ 9 → a ≠ 11 → a ≠ 12 → a ≠ 32 → m2 a = m a := fun a h8 h9 h11 h12 h32 => by rw [hS2.1 a h11 h12 h32, hS1.1 a h8 h9 h32]
  have e32 : ∀ i, i ≠ 7 → i ≠ 10 → m2 32 i = m 32 i := fun i h7 h10 => by rw [hS2.2 i h10, hS1.2 i h7]
  have hM2 : rfM len siz ded n ang m2 := by
    refine ⟨by rw [e 0 (by decide) (by decide) (by decide) (by decide) (by decide)]; exact hA, ?_, ?_, hw⟩
    · obtain ⟨l1, l2, l3, l4⟩ := hlr
      refine ⟨by rw [e32 13 (by decide) (by decide)]; exact l1, fun i x hx => ?_, ?_, fun q hq => ?_⟩
      · rw [e 14 (by decide) (by decide) (by decide) (by decide) (by decide)]; exact l2 i x hx
      · rw [e 15 (by decide) (by decide) (by decide) (by decide) (by decide)]; exact l3
      · rw [e 15 (by decide) (by decide) (by decide) (by decide) (by decide)]; exact l4 q hq
    · obtain ⟨o1, o2⟩ := ho
      refine ⟨by rw [hS2.2 7 (by decide)]; exact o1, fun c hc hv => ?_⟩
      rw [hS2.1 9 (by decide) (by decide) (by decide), hS2.1 8 (by decide) (by decide) (by decide)]
      exact o2 c hc hv
  refine t5_layGoals hs1 hn h12 h5 hp hpl hl hM2 (fun T m3 hq hM3 hrf3 hg3 => ⟨4033, ?_⟩)
  refine t5_all_loop (m0 := m2) (ang := ang) hs1 hn h5 (fun A tu ac m' hF hd hrf hg => hK A tu ac m' hF hd hrf ⟨fun a ha => ?_, fun i hi => ?_⟩) 4033 0 [] z0 z0 T m3 (by simp) (Nat.zero_le _) (fun x hx => by simp) (hq.lv hs1 hn h5) hM3 hrf3 hg3
  · rw [hg.1 a (by omega), e a (by omega) (by omega) (by omega) (by omega) (by omega)]
  · rw [hg.2 i (by omega), e32 i (by omega) (by omega)]
end LG
