/-! the situation behind an action, in the reference -/
def rfM (len siz : Nat → Nat) (ded : Nat → Bool) (n ang : Nat) (m : Mu) : Prop := aA len siz ded n ang (m 0) ∧ lrM len 12 m ∧ toI n (4 ^ n) m ∧ twI n 15625 m
section BH
variable {len siz : Nat → Nat} {ded : Nat → Bool} {n ang : Nat} {m : Mu} {K : Int32 → Mu → Prop} {row : Nat → List Nat} {pos t k : Nat} {P : List Nat}
theorem rfM.keep {m m' : Mu} (h : rfM len siz ded n ang m) (e : ∀ a, a = 0 ∨ a = 8 ∨ a = 9 ∨ a = 11 ∨ a = 12 ∨ a = 14 ∨ a = 15 → m' a = m a) (e7 : m' 32 7 = m 32 7) (e10 : m' 32 10 = m 32 10) (e13 : m' 32 13 = m 32 13) : rfM len siz ded n ang m' := by
  obtain ⟨h1, ⟨l1, l2, l3, l5⟩, ⟨o1, o2⟩, ⟨w1, w2⟩⟩ := h
  unfold rfM lrM toI twI
  rw [e 0 (by decide), e 8 (by decide), e 9 (by decide), e 11 (by decide), e 12 (by decide), e 14 (by decide), e 15 (by decide), e7, e10, e13]
  exact ⟨h1, ⟨l1, l2, l3, l5⟩, ⟨o1, o2⟩, ⟨w1, w2⟩⟩
theorem rfM.lo {m m' : Mu} (h : rfM len siz ded n ang m) (e : loS m m') : rfM len siz ded n ang m' := h.keep (fun a ha => e.1 a (by omega) (by omega) (by omega)) (e.2 7 (by decide)) (e.2 10 (by decide)) (e.2 13 (by decide))
theorem hS.lo {m m' : Mu} (h : hS m m') : loS m m' := ⟨fun a h1 h2 _ => h a h1 h2, fun i _ => congrFun (h 32 (by decide) (by decide)) i⟩
theorem rR_0 {m : Mu} (hR : rR (rws P row) m) (h0 : P[0]? = some 12) : m 17 0 = nI (row 12).length := by
  have := (hR 0 (by decide)).1
  rw [rws_at h0] at this
  exact this
theorem t5_b_in0 (hP : P.Nodup) (h0 : P[0]? = some 12) (hpos : pos < 12) (ht : P[t]? = some pos) (ht6 : t < 6) (h1 : k ≤ (row pos).length) (h2 : (row pos).length + (row 12).length ≤ 3) (h : ∀ m', rR (rws P (mvA 10 pos row k)) m' → hS m m' → wX5_numberOf m' (fun r => K r m')) : ∀ d i m1, i + d = k → rR (rws P (mvA 10 pos row i)) m1 → hS m m1 → lpX5_behind_278 K (d + 1) 1 0 (nI k) (nI t) 0 (nI i) m1 := by
  intro d
  induction d with
  | zero =>
    intro i m1 hi hB hs
    have e : i = k := by omega
    subst e
    unfold lpX5_behind_278
    exact ⟨fun _ => h m1 hB hs, fun q => absurd (Int32.le_refl _) q⟩
  | succ d ih =>
    intro i m1 hi hB hs
    obtain ⟨l, hlm, hl, hst⟩ := mv_step (row := row) (kd := 10) (pos := pos) (i := i) (Or.inl rfl) hpos (by show i < (row pos).length; omega)
    unfold lpX5_behind_278
    refine ⟨fun q => absurd q (nI_ge (by omega) (by omega)), fun _ => ⟨fun q => absurd q (by decide), fun _ => t5_tkP hP hB ht6 ht (i := 0) (l := l) hl (fun m4 hB4 hs4 => ⟨fun _ => ?_, fun q => absurd rfl q⟩)⟩⟩
    obtain ⟨g1, g2⟩ := hst _ rfl
    have g1' : (va_up (mvA 10 pos row i) pos (eraAt (mvA 10 pos row i pos) 0) 12).length = (row 12).length + i := g1
    refine t5_inP (r := 0) (p := 12) (i := 0) hP hB4 (by decide) h0 (Nat.zero_le _) (by rw [g1']; omega) (fun m6 hB6 hs6 x7 e7 => ?_)
    rw [e7, nI_1]
    refine ih (i + 1) m6 (by omega) ?_ (hs.tr (hs4.tr hs6))
    rw [← g2]
    exact hB6
theorem t5_b_in1 (hP : P.Nodup) (h0 : P[0]? = some 12) (hpos : pos < 12) (ht : P[t]? = some pos) (ht6 : t < 6) (h1 : k ≤ (row pos).length) (h2 : (row pos).length + (row 12).length ≤ 3) (h : ∀ m', rR (rws P (mvA 20 pos row k)) m' → hS m m' → wX5_numberOf m' (fun r => K r m')) : ∀ d i m1, i + d = k → rR (rws P (mvA 20 pos row i)) m1 → hS m m1 → lpX5_behind_278 K (d + 1) 1 1 (nI k) (nI t) 0 (nI i) m1 := by
  intro d
  induction d with
  | zero =>
    intro i m1 hi hB hs
    have e : i = k := by omega
    subst e
    unfold lpX5_behind_278
    exact ⟨fun _ => h m1 hB hs, fun q => absurd (Int32.le_refl _) q⟩
  | succ d ih =>
    intro i m1 hi hB hs
    obtain ⟨l, hlm, hl, hst⟩ := mv_step (row := row) (kd := 20) (pos := pos) (i := i) (Or.inr (Or.inl rfl)) hpos (by show i < (row pos).length; omega)
    unfold lpX5_behind_278
    refine ⟨fun q => absurd q (nI_ge (by omega) (by omega)), fun _ => ⟨fun q => absurd q (by decide), fun _ => t5_tkP hP hB ht6 ht (i := 0) (l := l) hl (fun m4 hB4 hs4 => ⟨fun q => absurd q (by decide), fun _ => ⟨pk_in 0 6 (by decide), ?_⟩⟩)⟩⟩
    obtain ⟨g1, g2⟩ := hst _ rfl
    have g1' : (va_up (mvA 20 pos row i) pos (eraAt (mvA 20 pos row i pos) 0) 12).length = (row 12).length + i := g1
    rw [show ((0 : Int32)).toNatClampNeg = 0 from rfl, rR_0 hB4 h0]
    refine t5_inP (r := 0) (p := 12) hP hB4 (by decide) h0 (Nat.le_refl _) (by rw [g1']; omega) (fun m6 hB6 hs6 x7 e7 => ?_)
    rw [e7, nI_1]
    refine ih (i + 1) m6 (by omega) ?_ (hs.tr (hs4.tr hs6))
    rw [← g2]
    exact hB6
theorem t5_b_out0 (hP : P.Nodup) (h0 : P[0]? = some 12) (hpos : pos < 12) (ht : P[t]? = some pos) (ht6 : t < 6) (h1 : k ≤ (row 12).length) (h2 : (row pos).length + (row 12).length ≤ 3) (h : ∀ m', rR (rws P (mvA 30 pos row k)) m' → hS m m' → wX5_numberOf m' (fun r => K r m')) : ∀ d i m1, i + d = k → rR (rws P (goA pos row k i)) m1 → hS m m1 → lpX5_behind_278 K (d + 1) 0 0 (nI k) 0 (nI t) (nI i) m1 := by
  intro d
  induction d with
  | zero =>
    intro i m1 hi hB hs
    have e : i = k := by omega
    subst e
    unfold lpX5_behind_278
    exact ⟨fun _ => h m1 (by rw [← goAk]; exact hB) hs, fun q => absurd (Int32.le_refl _) q⟩
  | succ d ih =>
    intro i m1 hi hB hs
    obtain ⟨l, hl, hst⟩ := goA_step (row := row) (k := k) (pos := pos) (i := i) hpos h1 (by omega)
    unfold lpX5_behind_278
    refine ⟨fun q => absurd q (nI_ge (by omega) (by omega)), fun _ => ⟨fun _ => ⟨fun _ => ?_, fun q => absurd rfl q⟩, fun q => absurd rfl q⟩⟩
    rw [nI_m1 (by omega), pk_sub (by omega)]
    refine t5_tkP (r := 0) hP hB (p := 12) (by decide) h0 (i := k - 1 - i) (l := l) hl (fun m4 hB4 hs4 => ?_)
    obtain ⟨g1, g2⟩ := hst _ rfl
    refine t5_inP (p := pos) (i := i) hP hB4 ht6 ht (by rw [g1]; omega) (by rw [g1]; omega) (fun m6 hB6 hs6 x7 e7 => ?_)
    rw [e7, nI_1]
    refine ih (i + 1) m6 (by omega) ?_ (hs.tr (hs4.tr hs6))
    rw [← g2]
    exact hB6
theorem t5_b_out1 (hP : P.Nodup) (h0 : P[0]? = some 12) (hpos : pos < 12) (ht : P[t]? = some pos) (ht6 : t < 6) (h1 : k ≤ (row 12).length) (h2 : (row pos).length + (row 12).length ≤ 3) (h : ∀ m', rR (rws P (mvA 40 pos row k)) m' → hS m m' → wX5_numberOf m' (fun r => K r m')) : ∀ d i m1, i + d = k → rR (rws P (goB pos row k i)) m1 → hS m m1 → lpX5_behind_278 K (d + 1) 0 1 (nI k) 0 (nI t) (nI i) m1 := by
  intro d
  induction d with
  | zero =>
    intro i m1 hi hB hs
    have e : i = k := by omega
    subst e
    unfold lpX5_behind_278
    exact ⟨fun _ => h m1 (by rw [← goBk _ h1]; exact hB) hs, fun q => absurd (Int32.le_refl _) q⟩
  | succ d ih =>
    intro i m1 hi hB hs
    obtain ⟨hc, l, hl, hst⟩ := goB_step (row := row) (k := k) (pos := pos) (i := i) hpos h1 (by omega)
    unfold lpX5_behind_278
    refine ⟨fun q => absurd q (nI_ge (by omega) (by omega)), fun _ => ⟨fun _ => ⟨fun q => absurd q (by decide), fun _ => ⟨pk_in 0 6 (by decide), ?_⟩⟩, fun q => absurd rfl q⟩⟩
    rw [show ((0 : Int32)).toNatClampNeg = 0 from rfl, rR_0 hB h0, hc, nI_back h1 (by omega)]
    refine t5_tkP (r := 0) hP hB (p := 12) (by decide) h0 (i := (row 12).length - k) (l := l) hl (fun m4 hB4 hs4 => ?_)
    obtain ⟨g1, g2⟩ := hst _ rfl
    refine t5_inP (p := pos) (i := i) hP hB4 ht6 ht (by rw [g1]; omega) (by rw [g1]; omega) (fun m6 hB6 hs6 x7 e7 => ?_)
    rw [e7, nI_1]
    refine ih (i + 1) m6 (by omega) ?_ (hs.tr (hs4.tr hs6))
    rw [← g2]
    exact hB6
/-- who moves is looked at -/
theorem t5_b_174 {v4 v5 : Int32} {s f sp tp : Nat} (hA : aA len siz ded n ang (m 0)) (h14 : ∀ (i x : Nat), P[i]? = some x → m 14 i = nI x) (hR : rR (rws P row) m) (hrow : ∀ p, p < 13 → ∀ l ∈ row p, l < n) (hs6 : s < 6) (ht6 : t < 6) (hsp : P[s]? = some sp) (htp : P[t]? = some tp) (hs13 : sp < 13) (ht13 : tp < 13) (h1 : f + k ≤ (row sp).length) (hno : (seg row sp f k).all ded = true ∨ len tp < sm siz (row tp) + sm siz (seg row sp f k) → K (-11) m) (hyes : ¬ (seg row sp f k).all ded = true → ¬ len tp < sm siz (row tp) + sm siz (seg row sp f k) → ∃ n38 : Nat, lpX5_behind_278 K n38 v4 v5 (nI k) (nI s) (nI t) (0 : Int32) m) : ∀ d i, i + d = k → lpX5_behind_174 K (d + 1) v4 v5 (nI k) (nI s) (nI t) (nI f) (if (seg row sp f i).all ded = true then 0 else 1) (nI (f + i)) m := by
  obtain ⟨r1, r2, r3⟩ := hR s hs6
  obtain ⟨q1, q2, q3⟩ := hR t ht6
  rw [rws_at hsp] at r1 r2 r3
  rw [rws_at htp] at q1 q2 q3
  have hA' := hA
  obtain ⟨hlen, -, -, hn8, hsz, hdd, -⟩ := hA'
  intro d
  induction d with
  | zero =>
    intro i hi
    have e : i = k := by omega
    subst e
    unfold lpX5_behind_174
    rw [nI_add]
    refine pk_le (f + i) (f + i) (fun _ => ?_) (fun z => absurd z (by omega))
    by_cases hall : (seg row sp f i).all ded = true
    · rw [if_pos hall]
      exact ⟨fun _ => hno (Or.inl hall), fun z => absurd rfl z⟩
    · rw [if_neg hall]
      refine ⟨fun z => absurd z (by decide), fun _ => ?_⟩
      refine t5_sum (R := rws P row) hA hR hs6 (by rw [rws_at hsp]; exact hrow sp hs13) (by rw [rws_at hsp]; exact h1) ⟨pk_in t 6 ht6, ?_⟩
      rw [rws_at hsp, nI_clamp (by omega), q1]
      have hlt := hlen tp ht13
      have hsum : sm siz (seg row sp f i) ≤ 20 * (seg row sp f i).length := sm_le (fun l hl => (hsz l (hrow sp hs13 l (List.mem_of_mem_drop (List.mem_of_mem_take hl)))).2.2)
      have hsumt : sm siz (row tp) ≤ 20 * (row tp).length := sm_le (fun l hl => (hsz l (hrow tp ht13 l hl)).2.2)
      have hlen4 : (seg row sp f i).length ≤ 4 := by unfold seg; rw [List.length_take, List.length_drop]; omega
      refine t5_sum (R := rws P row) (f := 0) hA hR ht6 (by rw [rws_at htp]; exact hrow tp ht13) (by rw [rws_at htp]; omega) ⟨pk_in t 6 ht6, ?_⟩
      rw [rws_at htp, h14 t tp htp, l0, nI_clamp (by omega), hlt.1, nI_add, List.drop_zero, List.take_length]
      refine ⟨pk_in tp 148 (by omega), pk_le (sm siz (seg row sp f i) + sm siz (row tp)) (len tp) (fun z => hyes hall (by omega)) (fun z => hno (Or.inr (by omega)))⟩
  | succ d ih =>
    intro i hi
    have hx := List.getElem?_eq_getElem (show f + i < (row sp).length by omega)
    have hln := hrow sp hs13 _ (List.getElem_mem (show f + i < (row sp).length by omega))
    have hx2 : ((row sp).drop f)[i]? = some (row sp)[f + i] := by rw [List.getElem?_drop]; exact hx
    have hseg : (seg row sp f (i + 1)).all ded = ((seg row sp f i).all ded && ded (row sp)[f + i]) := by
      unfold seg
      rw [take_snoc hx2, List.all_append]
      simp
    have hih := ih (i + 1) (by omega)
    rw [hseg] at hih
    unfold lpX5_behind_174
    rw [nI_add, l4, nI_clamp (n := 4 * s + (f + i)) (by omega), r3 _ _ hx, l23, nI_clamp (n := 23 + (row sp)[f + i]) (by omega), hdd _ hln]
    refine pk_le (f + k) (f + i) (fun z => absurd z (by omega)) (fun _ => ?_)
    by_cases hall : (seg row sp f i).all ded = true
    · rw [if_pos hall]
      refine ⟨fun _ => ⟨pk_in (4 * s + (f + i)) 24 (by omega), pk_in (23 + (row sp)[f + i]) 148 (by omega), ?_⟩, fun z => absurd rfl z⟩
      rw [hall, Bool.true_and] at hih
      cases hd : ded (row sp)[f + i] with
      | true =>
        rw [hd] at hih
        refine ⟨fun z => absurd z (by decide), fun _ x42 e42 => ?_⟩
        rw [e42, nI_1]; exact hih
      | false =>
        rw [hd] at hih
        refine ⟨fun _ x41 e41 => ?_, fun z => absurd rfl z⟩
        rw [e41, nI_1]; exact hih
    · rw [if_neg hall]
      refine ⟨fun z => absurd z (by decide), fun _ x43 e43 => ?_⟩
      have : ¬ ((seg row sp f i).all ded && ded (row sp)[f + i]) = true := fun z => hall (Bool.and_eq_true _ _ ▸ z).1
      rw [if_neg this] at hih
      rw [e43, nI_1]; exact hih
end BH
