/-! the yard: the rest of its methods -/
/-- two yards' memories hold the same -/
def yE (m m' : Mu) : Prop := (∀ p, p < 13 → m' 0 p = m 0 p ∧ m' 1 p = m 1 p ∧ m' 2 p = m 2 p) ∧ (∀ q, q < 104 → m' 3 q = m 3 q) ∧ (∀ l, l < 8 → m' 4 l = m 4 l) ∧ m' 8 5 = m 8 5 ∧ m' 8 6 = m 8 6 ∧ m' 8 7 = m 8 7
theorem yA.eq {len siz : Nat → Nat} {ded : Nat → Bool} {n : Nat} {m m' : Mu} (h : yA len siz ded n m) (e : yE m m') : yA len siz ded n m' := by
  obtain ⟨a1, a2, a3, a4, D, a5, a6, a7⟩ := h
  obtain ⟨e1, e2, e3, e4, e5, e6⟩ := e
  exact ⟨fun p hp => by rw [(e1 p hp).1]; exact a1 p hp, fun l hl => by rw [e3 l (by omega)]; exact a2 l hl, by rw [e4]; exact a3, a4, D, a5, by rw [e5]; exact a6, a7⟩
theorem yB.eq {siz : Nat → Nat} {row : Nat → List Nat} {m m' : Mu} (h : yB siz row m) (e : yE m m') : yB siz row m' := by
  obtain ⟨e1, e2, e3, -⟩ := e
  intro p hp
  obtain ⟨h1, h2, h3, h4⟩ := h p hp
  refine ⟨by rw [(e1 p hp).2.2]; exact h1, by rw [(e1 p hp).2.1]; exact h2, h3, fun i l hl => ?_⟩
  have hi := (List.getElem?_eq_some_iff.mp hl).1
  obtain ⟨g1, g2, g3⟩ := h4 i l hl
  exact ⟨by rw [e2 _ (by omega)]; exact g1, g2, by rw [e3 l g2]; exact g3⟩
theorem cpy_in {f g : Nat → Int32} {n j : Nat} (h : j < n) : va_cpy f g 0 0 n j = f j := by
  unfold va_cpy
  rw [if_pos (by omega)]
  congr 1
  omega
theorem t_copyFrom {m : Mu} {K : Mu → Prop} (h : ∀ m', yE (mu_sub m 10) m' → (∀ a, 10 ≤ a → m' a = m a) → K m') : wX3_copyFrom m K := by
  intro m1 e1 m2 e2 m3 e3 m4 e4 m5 e5 m6 e6 m7 e7 m8 e8
  have f1 : ∀ a, 9 ≤ a → m1 a = m a := fun a ha => by rw [e1, pu_ne _ _ (by omega)]
  have f2 : ∀ a, 9 ≤ a → m2 a = m a := fun a ha => by rw [e2, pu_ne _ _ (by omega), f1 a ha]
  have f3 : ∀ a, 9 ≤ a → m3 a = m a := fun a ha => by rw [e3, pu_ne _ _ (by omega), f2 a ha]
  have f4 : ∀ a, 9 ≤ a → m4 a = m a := fun a ha => by rw [e4, pu_ne _ _ (by omega), f3 a ha]
  have f5 : ∀ a, 9 ≤ a → m5 a = m a := fun a ha => by rw [e5, pu_ne _ _ (by omega), f4 a ha]
  have f6 : ∀ a, 9 ≤ a → m6 a = m a := fun a ha => by rw [e6, pu_upn _ _ _ (by omega), f5 a ha]
  have f7 : ∀ a, 9 ≤ a → m7 a = m a := fun a ha => by rw [e7, pu_upn _ _ _ (by omega), f6 a ha]
  have f8 : ∀ a, 9 ≤ a → m8 a = m a := fun a ha => by rw [e8, pu_upn _ _ _ (by omega), f7 a ha]
  have k5 : ∀ a, a < 5 → m8 a = m5 a := fun a ha => by rw [e8, pu_upn _ _ _ (by omega), e7, pu_upn _ _ _ (by omega), e6, pu_upn _ _ _ (by omega)]
  refine h m8 ⟨fun p hp => ⟨?_, ?_, ?_⟩, fun q hq => ?_, fun l hl => ?_, ?_, ?_, ?_⟩ (fun a ha => f8 a (by omega))
  · rw [k5 0 (by decide), e5, pu_ne _ _ (by decide), e4, pu_ne _ _ (by decide), e3, pu_ne _ _ (by decide), e2, pu_ne _ _ (by decide), e1, pu_same, cpy_in hp]
    rfl
  · rw [k5 1 (by decide), e5, pu_ne _ _ (by decide), e4, pu_ne _ _ (by decide), e3, pu_ne _ _ (by decide), e2, pu_same, cpy_in hp, f1 11 (by decide)]
    rfl
  · rw [k5 2 (by decide), e5, pu_ne _ _ (by decide), e4, pu_ne _ _ (by decide), e3, pu_same, cpy_in hp, f2 12 (by decide)]
    rfl
  · rw [k5 3 (by decide), e5, pu_ne _ _ (by decide), e4, pu_same, cpy_in hq, f3 13 (by decide)]
    rfl
  · rw [k5 4 (by decide), e5, pu_same, cpy_in hl, f4 14 (by decide)]
    rfl
  · rw [e8, pu_up, pu_un _ _ (by decide), e7, pu_up, pu_un _ _ (by decide), e6, pu_up, pu_u, f5 18 (by decide)]
    rfl
  · rw [e8, pu_up, pu_un _ _ (by decide), e7, pu_up, pu_u, f6 18 (by decide)]
    rfl
  · rw [e8, pu_up, pu_u, f7 18 (by decide)]
    rfl
section YT
variable {m : Mu} {len siz : Nat → Nat} {ded : Nat → Bool} {n : Nat} {row : Nat → List Nat} {kd ang : Nat}
theorem rem12 {a : Nat} (h : a < 2 ^ 31) : am_rem (nI a) 12 = nI (a % 12) := by
  unfold am_rem
  rw [show (12 : Int32) = nI 12 from rfl, pk_rem h (by decide) (by decide)]
theorem rem10 {a : Nat} (h : a < 2 ^ 31) : am_rem (nI a) 10 = nI (a % 10) := by
  unfold am_rem
  rw [show (10 : Int32) = nI 10 from rfl, pk_rem h (by decide) (by decide)]
theorem t_carry0 {K : Mu → Prop} (ha : m 8 7 = nI ang) (ha12 : ang < 12) (h : ∀ m', m' = mu_up m 8 7 (nI ((ang + 1) % 12)) → K m') : wX3_carryOut 0 m K := by
  refine ⟨fun _ m2 e2 => h m2 ?_, fun c => absurd rfl c⟩
  rw [e2, ha, nI_1, rem12 (by omega)]
theorem t_carry1 {K : Mu → Prop} (ha : m 8 7 = nI ang) (ha12 : ang < 12) (h : ∀ m', m' = mu_up m 8 7 (nI ((ang + 11) % 12)) → K m') : wX3_carryOut 1 m K := by
  refine ⟨fun c => absurd c (by decide), fun _ => ⟨fun _ m4 e4 => h m4 ?_, fun c => absurd rfl c⟩⟩
  rw [e4, ha, show (12 : Int32) = nI 12 from rfl, nI_add, nI_m1 (by omega), show ang + 12 - 1 = ang + 11 by omega, ← show (12 : Int32) = nI 12 from rfl, rem12 (by omega)]
theorem t_carryK {K : Mu → Prop} {k : Nat} (hk : isKd kd) (hk0 : 0 < k) (hk8 : k ≤ 8) (ha : m 8 7 = nI ang) (ha12 : ang < 12) (hB : yB siz row m) (h1 : k ≤ (row (srcOf kd ang)).length) (h2 : (row (tgtOf kd ang)).length + k ≤ 8) (h : ∀ m', yB siz (mvA kd (posOf kd ang) row k) m' → y_same m m' → K m') : wX3_carryOut (nI (kd + k)) m K := by
  have hkd : kd % 10 = 0 ∧ 10 ≤ kd ∧ kd ≤ 40 := by rcases hk with rfl | rfl | rfl | rfl <;> decide
  have e1 : am_rem (nI (kd + k)) 10 = nI k := by rw [rem10 (by omega)]; congr 1; omega
  have e2 : nI (kd + k) - am_rem (nI (kd + k)) 10 = nI kd := by rw [e1, pk_sub (by omega)]; congr 1; omega
  refine ⟨fun c => absurd c (nI_ne0 (by omega) (by omega)), fun _ => ⟨fun c => ?_, fun _ => ?_⟩⟩
  · exact absurd ((nI_eq (b := 1) (by omega) (by decide)).mp c) (by omega)
  · rw [e2, e1]
    exact t_shift hk ha ha12 hB h1 h2 h
theorem t_setLength {K : Mu → Prop} {p : Nat} {x : Int32} (hp : p < 13) (h : ∀ m', m' = mu_up m 0 p x → K m') : wX3_setLength (nI p) x m K :=
  ix_lo hp (by decide) ⟨vp_in_nI hp (by decide), fun m3 e3 => h m3 (by rw [e3, nI_clamp (by omega)])⟩
theorem t_markDead {K : Mu → Prop} {l D : Nat} {x : Int32} (hn : m 8 5 = nI n) (hn8 : n ≤ 8) (hl : l < n) (hD : m 8 6 = nI D) (hD8 : D < 256) (h : ∀ m' D', m' = mu_up m 8 6 (nI D') → D' < 256 → (∀ k, k < 8 → D'.testBit k = if k = l then !(decide (x = 0)) else D.testBit k) → K m') : wX3_markDead (nI l) x m K := by
  refine t_isLoc hn hn8 hl ⟨fun c => absurd c (by decide), fun _ x3 e3 => ?_⟩
  rw [e3, hD]
  refine ⟨fun c m5 e5 => ?_, fun c m6 e6 => ?_⟩
  · refine h m5 (D - if D.testBit l then 2 ^ l else 0) ?_ (by omega) (fun k hk => ?_)
    · rw [e5, bit_off D hD8 l (by omega)]
    · rw [bit_off_t D hD8 l (by omega) k hk]
      by_cases hkl : k = l
      · subst hkl; simp [c]
      · simp [hkl]
  · refine h m6 (D ||| 2 ^ l) ?_ (bit_on_lt D hD8 l (by omega)) (fun k hk => ?_)
    · rw [e6, bit_on D hD8 l (by omega)]
    · rw [bit_on_t D hD8 l (by omega) k hk]
      by_cases hkl : k = l
      · subst hkl; simp [c]
      · simp [hkl]
theorem t_indexIn_loop {K : Int32 → Prop} {p l : Nat} (hB : yB siz row m) (hp : p < 13) (hl : l < 2 ^ 31) (h : K (match (row p).idxOf? l with | some i => nI i | none => -11)) : ∀ d j, j + d = (row p).length → (∀ i, i < j → (row p)[i]? ≠ some l) → lpX3_indexIn_9 m K (d + 1) (nI p) (nI l) (nI (row p).length) (nI j) := by
  obtain ⟨b1, b2, b3, b4⟩ := hB p hp
  intro d
  induction d with
  | zero =>
    intro j hj hno
    have e : j = (row p).length := by omega
    subst e
    unfold lpX3_indexIn_9
    refine ⟨fun _ => ?_, fun q => absurd (Int32.le_refl _) q⟩
    have hn : (row p).idxOf? l = none := by
      rw [List.idxOf?_eq_none_iff]
      intro hm
      obtain ⟨i, hi⟩ := List.getElem?_of_mem hm
      exact hno i (List.getElem?_eq_some_iff.mp hi).1 hi
    rw [hn] at h
    exact h
  | succ d ih =>
    intro j hj hno
    have hjl : j < (row p).length := by omega
    have hx := List.getElem?_eq_getElem hjl
    generalize (row p)[j] = x at hx
    obtain ⟨c1, c2, c3⟩ := b4 j x hx
    unfold lpX3_indexIn_9
    refine ⟨fun q => absurd q (nI_ge hjl (by omega)), fun _ => t_locAt hp b1 b3 hjl ?_⟩
    rw [c1]
    refine ⟨fun q => ?_, fun q x5 e5 => ?_⟩
    · have ex : x = l := (nI_eq (by omega) hl).mp q
      subst ex
      have hs : (row p).idxOf? x = some j := by
        unfold List.idxOf?
        rw [List.findIdx?_eq_some_iff_getElem]
        refine ⟨hjl, ?_, fun i hi => ?_⟩
        · have := (List.getElem?_eq_some_iff.mp hx).2
          simp [this]
        · have hne := hno i hi
          have hil : i < (row p).length := by omega
          rw [List.getElem?_eq_getElem hil] at hne
          simpa using fun q2 => hne (congrArg some q2)
      rw [hs] at h
      exact h
    · rw [e5, nI_1]
      refine ih (j + 1) (by omega) (fun i hi => ?_)
      by_cases hij : i = j
      · subst hij
        rw [hx]
        intro q2
        cases q2
        exact q rfl
      · exact hno i (by omega)
theorem t_indexIn {K : Int32 → Prop} {p l : Nat} (hB : yB siz row m) (hp : p < 13) (hl : l < 2 ^ 31) (h : K (match (row p).idxOf? l with | some i => nI i | none => -11)) : wX3_indexIn (nI p) (nI l) m K := by
  refine t_countAt hp ⟨(row p).length + 1, ?_⟩
  rw [(hB p hp).1]
  exact t_indexIn_loop hB hp hl h (row p).length 0 (by omega) (fun i hi => by omega)
theorem t_placeOf_loop {K : Int32 → Prop} {p l : Nat} (hB : yB siz row m) (hp : p < 13) (hl : l < 2 ^ 31) (hm : l ∈ row p) (h : K (nI p)) : ∀ d j, j + d = p → (∀ q, q < p → l ∉ row q) → lpX3_placeOf_2 m K (d + 1) (nI l) (nI j) := by
  intro d
  induction d with
  | zero =>
    intro j hj hno
    have e : j = p := by omega
    subst e
    unfold lpX3_placeOf_2
    refine ⟨fun q => absurd q (nI_ge (b := 13) hp (by decide)), fun _ => t_indexIn hB hp hl ?_⟩
    cases hi : (row j).idxOf? l with
    | none => exact absurd hm (List.idxOf?_eq_none_iff.mp hi)
    | some i =>
      have h8 := (hB j hp).2.2.1
      have hil : i < (row j).length := by
        unfold List.idxOf? at hi
        exact (List.findIdx?_eq_some_iff_getElem.mp hi).1
      exact ⟨fun q => absurd q (ne_m11 (by omega)), fun _ => h⟩
  | succ d ih =>
    intro j hj hno
    unfold lpX3_placeOf_2
    refine ⟨fun q => absurd q (nI_ge (b := 13) (by omega) (by decide)), fun _ => t_indexIn hB (by omega) hl ?_⟩
    have hn : (row j).idxOf? l = none := List.idxOf?_eq_none_iff.mpr (hno j (by omega))
    rw [hn]
    refine ⟨fun _ x4 e4 => ?_, fun q => absurd rfl q⟩
    rw [e4, nI_1]
    exact ih (j + 1) (by omega) hno
theorem t_placeOf {K : Int32 → Prop} {p l : Nat} (hB : yB siz row m) (hp : p < 13) (hl : l < 2 ^ 31) (hm : l ∈ row p) (hno : ∀ q, q < p → l ∉ row q) (h : K (nI p)) : wX3_placeOf (nI l) m K :=
  ⟨p + 1, t_placeOf_loop hB hp hl hm h p 0 (by omega) hno⟩
/-- how many tracks there are -/
def trk (len : Nat → Nat) : Nat → Nat
  | 0 => 0
  | p + 1 => trk len p + if 0 < len p then 1 else 0
theorem trk_le (len : Nat → Nat) : ∀ p, trk len p ≤ p
  | 0 => Nat.le_refl _
  | p + 1 => by
    have := trk_le len p
    show trk len p + (if 0 < len p then 1 else 0) ≤ p + 1
    split <;> omega
theorem t_trackCount_loop {K : Int32 → Prop} (hA : yA len siz ded n m) (h : K (nI (trk len 12))) : ∀ d j, j + d = 12 → lpX3_trackCount_4 m K (d + 1) (nI (trk len j)) (nI j) := by
  intro d
  induction d with
  | zero =>
    intro j hj
    have e : j = 12 := by omega
    subst e
    unfold lpX3_trackCount_4
    exact ⟨fun _ => h, fun q => absurd (Int32.le_refl _) q⟩
  | succ d ih =>
    intro j hj
    have hl := hA.1 j (by omega)
    have hih := ih (j + 1) (by omega)
    have et : trk len (j + 1) = trk len j + if 0 < len j then 1 else 0 := rfl
    unfold lpX3_trackCount_4
    refine ⟨fun q => absurd q (nI_ge (b := 12) (by omega) (by decide)), fun _ => ⟨vp_in_nI (by omega) (by decide), ?_⟩⟩
    rw [nI_clamp (by omega), hl.1]
    refine ⟨fun q x3 e3 => ?_, fun q x4 e4 x5 e5 => ?_⟩
    · have h0 : ¬ 0 < len j := fun z => absurd q (nI_nle z (by omega))
      rw [if_neg h0] at et
      rw [et] at hih
      rw [e3, nI_1]
      exact hih
    · have h0 : 0 < len j := by
        rcases Nat.eq_zero_or_pos (len j) with z | z
        · exact absurd (by rw [z]; exact Int32.le_refl _) q
        · exact z
      rw [if_pos h0] at et
      rw [e4, e5, nI_1, nI_1, ← et]
      exact hih
theorem t_trackCount {K : Int32 → Prop} (hA : yA len siz ded n m) (h : K (nI (trk len 12))) : wX3_trackCount m K := ⟨13, t_trackCount_loop hA h 12 0 (by omega)⟩
theorem t_emptyRows {K : Mu → Prop} (h : ∀ m', yB siz (fun _ => []) m' → y_same m m' → K m') : wX3_emptyRows m K := by
  intro m1 e1 m2 e2
  refine h m2 (fun p hp => ⟨?_, ?_, Nat.zero_le _, fun i l hl => by simp at hl⟩) (fun a h1 h2 h3 => ?_)
  · rw [e2, pu_ne _ _ (by decide), e1, pu_same]
    unfold am_fill
    rw [if_pos hp]
    rfl
  · rw [e2, pu_same]
    unfold am_fill
    rw [if_pos hp]
    rfl
  · rw [e2, pu_ne _ _ h1, e1, pu_ne _ _ h2]
theorem t_allFit_loop {K : Int32 → Prop} (hA : yA len siz ded n m) (hB : yB siz row m) (hs : ∀ p, p < 13 → ∀ l ∈ row p, siz l ≤ 20) (h1 : (∀ p, p < 13 → sm siz (row p) ≤ len p) → K 1) (h0 : (¬ ∀ p, p < 13 → sm siz (row p) ≤ len p) → K 0) : ∀ d j, j + d = 13 → (∀ p, p < j → sm siz (row p) ≤ len p) → lpX3_allFit_2 m K (d + 1) (nI j) := by
  intro d
  induction d with
  | zero =>
    intro j hj hf
    have e : j = 13 := by omega
    subst e
    unfold lpX3_allFit_2
    exact ⟨fun _ => h1 hf, fun q => absurd (Int32.le_refl _) q⟩
  | succ d ih =>
    intro j hj hf
    have hv : vp_in (nI j) 13 := vp_in_nI (by omega) (by decide)
    have hl := hA.1 j (by omega)
    obtain ⟨b1, b2, b3, b4⟩ := hB j (by omega)
    have hsm := sm_le (siz := siz) (hs j (by omega))
    unfold lpX3_allFit_2
    refine ⟨fun q => absurd q (nI_ge (b := 13) (by omega) (by decide)), fun _ => ⟨hv, hv, ?_⟩⟩
    rw [nI_clamp (by omega), hl.1, b2]
    refine ⟨fun q x3 e3 => ?_, fun q => h0 (fun z => q (nI_le (z j (by omega)) (by omega)))⟩
    rw [e3, nI_1]
    refine ih (j + 1) (by omega) (fun p hp => ?_)
    by_cases hpj : p = j
    · subst hpj
      exact (nI_leI (by omega) (by omega)).mp q
    · exact hf p (by omega)
theorem t_allFit {K : Int32 → Prop} (hA : yA len siz ded n m) (hB : yB siz row m) (hs : ∀ p, p < 13 → ∀ l ∈ row p, siz l ≤ 20) (h1 : (∀ p, p < 13 → sm siz (row p) ≤ len p) → K 1) (h0 : (¬ ∀ p, p < 13 → sm siz (row p) ≤ len p) → K 0) : wX3_allFit m K :=
  ⟨14, t_allFit_loop hA hB hs h1 h0 13 0 (by omega) (fun p hp => by omega)⟩
end YT
