/-! the reference's movements -/
section MM
variable {m : Mu} {len siz : Nat → Nat} {ded : Nat → Bool} {n ang : Nat} {row : Nat → List Nat} {K : Mu → Prop} {k pos : Nat}
/-- the part of 'at' below the rows is kept, and all else -/
def m_keep (m m' : Mu) : Prop := (∀ q, q < 31 → m' 0 q = m 0 q) ∧ m_same m m'
theorem m_keep.rf {m : Mu} : m_keep m m := ⟨fun _ _ => rfl, m_same.rf⟩
theorem m_keep.tr {m m' m'' : Mu} (h : m_keep m m') (h2 : m_keep m' m'') : m_keep m m'' := ⟨fun q hq => (h2.1 q hq).trans (h.1 q hq), h.2.tr h2.2⟩
theorem c43 : (43 : Int32).toNatClampNeg = 31 + 12 := by decide
theorem t5_goIn0 (hpos : pos < 12) (h1 : k ≤ (row pos).length) (h8 : (row pos).length ≤ 8) (h2 : (row 12).length + k ≤ 8) (h : ∀ m', aB (mvA 10 pos row k) (m' 0) → m_keep m m' → K m') : ∀ d i m1, i + d = k → aB (mvA 10 pos row i) (m1 0) → m_keep m m1 → lpX5_goIn_9 K (d + 1) 0 (nI k) (nI pos) (nI i) m1 := by
  intro d
  induction d with
  | zero =>
    intro i m1 hi hB hs
    have e : i = k := by omega
    subst e
    unfold lpX5_goIn_9
    exact ⟨fun _ => h m1 hB hs, fun q => absurd (Int32.le_refl _) q⟩
  | succ d ih =>
    intro i m1 hi hB hs
    obtain ⟨l, hlm, hl, hst⟩ := mv_step (row := row) (kd := 10) (pos := pos) (i := i) (Or.inl rfl) hpos (by show i < (row pos).length; omega)
    unfold lpX5_goIn_9
    refine ⟨fun q => absurd q (nI_ge (by omega) (by omega)), fun _ => t5_tk hB (p := pos) (by omega) (i := 0) (l := l) hl (fun m4 hB4 hk4 hs4 => ⟨fun _ => ?_, fun q => absurd rfl q⟩)⟩
    obtain ⟨g1, g2⟩ := hst _ rfl
    have g1' : (va_up (mvA 10 pos row i) pos (eraAt (mvA 10 pos row i pos) 0) 12).length = (row 12).length + i := g1
    refine t5_ins (p := 12) (i := 0) hB4 (by decide) (Nat.zero_le _) (by rw [g1']; omega) (fun m6 hB6 hk6 hs6 x7 e7 => ?_)
    rw [e7, nI_1]
    refine ih (i + 1) m6 (by omega) ?_ (hs.tr (m_keep.tr ⟨hk4, hs4⟩ ⟨hk6, hs6⟩))
    rw [← g2]
    exact hB6
theorem t5_goIn1 (hpos : pos < 12) (h1 : k ≤ (row pos).length) (h8 : (row pos).length ≤ 8) (h2 : (row 12).length + k ≤ 8) (h : ∀ m', aB (mvA 20 pos row k) (m' 0) → m_keep m m' → K m') : ∀ d i m1, i + d = k → aB (mvA 20 pos row i) (m1 0) → m_keep m m1 → lpX5_goIn_9 K (d + 1) 1 (nI k) (nI pos) (nI i) m1 := by
  intro d
  induction d with
  | zero =>
    intro i m1 hi hB hs
    have e : i = k := by omega
    subst e
    unfold lpX5_goIn_9
    exact ⟨fun _ => h m1 hB hs, fun q => absurd (Int32.le_refl _) q⟩
  | succ d ih =>
    intro i m1 hi hB hs
    obtain ⟨l, hlm, hl, hst⟩ := mv_step (row := row) (kd := 20) (pos := pos) (i := i) (Or.inr (Or.inl rfl)) hpos (by show i < (row pos).length; omega)
    unfold lpX5_goIn_9
    refine ⟨fun q => absurd q (nI_ge (by omega) (by omega)), fun _ => t5_tk hB (p := pos) (by omega) (i := 0) (l := l) hl (fun m4 hB4 hk4 hs4 => ⟨fun q => absurd q (by decide), fun _ => ⟨vp_in_nI (n := 43) (by decide) (by decide), ?_⟩⟩)⟩
    obtain ⟨g1, g2⟩ := hst _ rfl
    have g1' : (va_up (mvA 20 pos row i) pos (eraAt (mvA 20 pos row i pos) 0) 12).length = (row 12).length + i := g1
    rw [c43, (hB4 12 (by decide)).1]
    refine t5_ins (p := 12) hB4 (by decide) (Nat.le_refl _) (by rw [g1']; omega) (fun m6 hB6 hk6 hs6 x7 e7 => ?_)
    rw [e7, nI_1]
    refine ih (i + 1) m6 (by omega) ?_ (hs.tr (m_keep.tr ⟨hk4, hs4⟩ ⟨hk6, hs6⟩))
    rw [← g2]
    exact hB6
theorem t5_goIn {e : Nat} (he : e < 2) (hA : aA len siz ded n ang (m 0)) (hB : aB row (m 0)) (h1 : k ≤ (row (posOf (10 + 10 * e) ang)).length) (h2 : (row 12).length + k ≤ 8) (h : ∀ m', aB (mvA (10 + 10 * e) (posOf (10 + 10 * e) ang) row k) (m' 0) → m_keep m m' → K m') : wX5_goIn (nI e) (nI k) m K := by
  have ha := hA.2.2.2.2.2.2
  refine t5_pointed hA he ⟨k + 1, ?_⟩
  have hp : posOf (10 + 10 * e) ang = (ang + 6 * e) % 12 := by
    have : e = 0 ∨ e = 1 := by omega
    rcases this with rfl | rfl
    · show ang = _
      omega
    · rfl
  rw [hp] at h1 h
  have hq : (ang + 6 * e) % 12 < 12 := Nat.mod_lt _ (by decide)
  generalize (ang + 6 * e) % 12 = pos at h1 h hq
  have h8 := (hB pos (by omega)).2.1
  have : e = 0 ∨ e = 1 := by omega
  rcases this with rfl | rfl
  · exact t5_goIn0 hq h1 h8 h2 h k 0 m (by omega) (by rw [mvA0 _ hq]; exact hB) m_keep.rf
  · exact t5_goIn1 hq h1 h8 h2 h k 0 m (by omega) (by rw [mvA0 _ hq]; exact hB) m_keep.rf
/-- out at A, i of k moved, the farthest first -/
def goA (pos : Nat) (row : Nat → List Nat) (k i : Nat) : Nat → List Nat := va_up (va_up row 12 ((row 12).take (k - i) ++ (row 12).drop k)) pos ((((row 12).take k).drop (k - i)).reverse ++ row pos)
/-- out at B, i of k moved, the farthest first -/
def goB (pos : Nat) (row : Nat → List Nat) (k i : Nat) : Nat → List Nat := va_up (va_up row 12 ((row 12).take ((row 12).length - k) ++ (row 12).drop ((row 12).length - k + i))) pos (((row 12).drop ((row 12).length - k)).take i ++ row pos)
theorem goA0 (row : Nat → List Nat) (h : k ≤ (row 12).length) : goA pos row k 0 = row := by
  unfold goA
  rw [Nat.sub_zero, List.take_append_drop, up_id row 12 rfl, List.drop_eq_nil_of_le (by simp; omega)]
  exact up_id row pos rfl
theorem goAk (row : Nat → List Nat) : goA pos row k k = mvA 30 pos row k := by
  unfold goA mvA
  rw [Nat.sub_self, List.take_zero, List.nil_append, List.drop_zero]
  rfl
theorem goB0 (row : Nat → List Nat) : goB pos row k 0 = row := by
  unfold goB
  rw [Nat.add_zero, List.take_append_drop, up_id row 12 rfl, List.take_zero, List.nil_append]
  exact up_id row pos rfl
theorem goBk (row : Nat → List Nat) (h : k ≤ (row 12).length) : goB pos row k k = mvA 40 pos row k := by
  unfold goB mvA
  rw [Nat.sub_add_cancel h, List.drop_length, List.append_nil, List.take_of_length_le (l := (row 12).drop ((row 12).length - k)) (i := k) (by simp; omega)]
  rfl
theorem mid_era (a b : List Nat) (x : Nat) : eraAt (a ++ x :: b) a.length = a ++ b := by simp [eraAt]
theorem mid_ins (a b : List Nat) (x : Nat) : insAt (a ++ b) a.length x = a ++ x :: b := by simp [insAt]
theorem mid_get (a b : List Nat) (x : Nat) : (a ++ x :: b)[a.length]? = some x := by simp
theorem goA_step {i : Nat} (hpos : pos < 12) (hk : k ≤ (row 12).length) (hi : i < k) : ∃ l, (goA pos row k i 12)[k - 1 - i]? = some l ∧ ∀ r1 : Nat → List Nat, r1 = va_up (goA pos row k i) 12 (eraAt (goA pos row k i 12) (k - 1 - i)) → (r1 pos).length = (row pos).length + i ∧ va_up r1 pos (insAt (r1 pos) i l) = goA pos row k (i + 1) := by
  have hne : (12 : Nat) ≠ pos := by omega
  have hj : k - 1 - i < (row 12).length := by omega
  have hx := List.getElem?_eq_getElem hj
  generalize (row 12)[k - 1 - i] = x at hx
  have e1 : (row 12).take (k - i) = (row 12).take (k - 1 - i) ++ [x] := by
    rw [show k - i = k - 1 - i + 1 by omega]
    exact take_snoc hx
  have el : ((row 12).take (k - 1 - i)).length = k - 1 - i := by simp; omega
  have e2 : goA pos row k i 12 = (row 12).take (k - 1 - i) ++ x :: (row 12).drop k := by
    unfold goA
    rw [va_up_ne _ _ hne, va_up_self, e1, List.append_assoc]
    rfl
  have e3 : ((row 12).take k).drop (k - 1 - i) = x :: ((row 12).take k).drop (k - i) := by
    have : ((row 12).take k)[k - 1 - i]? = some x := by rw [List.getElem?_take]; rw [if_pos (by omega)]; exact hx
    rw [drop_cons this, show k - 1 - i + 1 = k - i by omega]
  have el2 : ((((row 12).take k).drop (k - i)).reverse).length = i := by simp; omega
  refine ⟨x, by rw [e2]; have := mid_get ((row 12).take (k - 1 - i)) ((row 12).drop k) x; rw [el] at this; exact this, fun r1 h1 => ?_⟩
  have h2 : eraAt (goA pos row k i 12) (k - 1 - i) = (row 12).take (k - 1 - i) ++ (row 12).drop k := by
    rw [e2]
    have := mid_era ((row 12).take (k - 1 - i)) ((row 12).drop k) x
    rw [el] at this
    exact this
  rw [h2] at h1
  have h3 : r1 = va_up (va_up row 12 ((row 12).take (k - 1 - i) ++ (row 12).drop k)) pos ((((row 12).take k).drop (k - i)).reverse ++ row pos) := by
    rw [h1]
    unfold goA
    rw [up_comm _ (Ne.symm hne), up_up]
  have h4 : r1 pos = (((row 12).take k).drop (k - i)).reverse ++ row pos := by rw [h3, va_up_self]
  refine ⟨by rw [h4, List.length_append, el2]; omega, ?_⟩
  have h5 : insAt (r1 pos) i x = (((row 12).take k).drop (k - i)).reverse ++ x :: row pos := by
    rw [h4]
    have := mid_ins ((((row 12).take k).drop (k - i)).reverse) (row pos) x
    rw [el2] at this
    exact this
  rw [h5, h3, up_up]
  unfold goA
  rw [show k - (i + 1) = k - 1 - i by omega, e3, List.reverse_cons, List.append_assoc]
  rfl
theorem goB_step {i : Nat} (hpos : pos < 12) (hk : k ≤ (row 12).length) (hi : i < k) : (goB pos row k i 12).length = (row 12).length - i ∧ ∃ l, (goB pos row k i 12)[(row 12).length - k]? = some l ∧ ∀ r1 : Nat → List Nat, r1 = va_up (goB pos row k i) 12 (eraAt (goB pos row k i 12) ((row 12).length - k)) → (r1 pos).length = (row pos).length + i ∧ va_up r1 pos (insAt (r1 pos) i l) = goB pos row k (i + 1) := by
  have hne : (12 : Nat) ≠ pos := by omega
  have hj : (row 12).length - k + i < (row 12).length := by omega
  have hx := List.getElem?_eq_getElem hj
  generalize (row 12)[(row 12).length - k + i] = x at hx
  have el : ((row 12).take ((row 12).length - k)).length = (row 12).length - k := by simp
  have e2 : goB pos row k i 12 = (row 12).take ((row 12).length - k) ++ x :: (row 12).drop ((row 12).length - k + (i + 1)) := by
    unfold goB
    rw [va_up_ne _ _ hne, va_up_self, drop_cons hx]
    rfl
  have e3 : ((row 12).drop ((row 12).length - k)).take (i + 1) = ((row 12).drop ((row 12).length - k)).take i ++ [x] := by
    refine take_snoc ?_
    rw [List.getElem?_drop]
    exact hx
  have el2 : (((row 12).drop ((row 12).length - k)).take i).length = i := by simp; omega
  refine ⟨by rw [e2]; simp; omega, x, by rw [e2]; have := mid_get ((row 12).take ((row 12).length - k)) ((row 12).drop ((row 12).length - k + (i + 1))) x; rw [el] at this; exact this, fun r1 h1 => ?_⟩
  have h2 : eraAt (goB pos row k i 12) ((row 12).length - k) = (row 12).take ((row 12).length - k) ++ (row 12).drop ((row 12).length - k + (i + 1)) := by
    rw [e2]
    have := mid_era ((row 12).take ((row 12).length - k)) ((row 12).drop ((row 12).length - k + (i + 1))) x
    rw [el] at this
    exact this
  rw [h2] at h1
  have h3 : r1 = va_up (va_up row 12 ((row 12).take ((row 12).length - k) ++ (row 12).drop ((row 12).length - k + (i + 1)))) pos (((row 12).drop ((row 12).length - k)).take i ++ row pos) := by
    rw [h1]
    unfold goB
    rw [up_comm _ (Ne.symm hne), up_up]
  have h4 : r1 pos = ((row 12).drop ((row 12).length - k)).take i ++ row pos := by rw [h3, va_up_self]
  refine ⟨by rw [h4, List.length_append, el2]; omega, ?_⟩
  have h5 : insAt (r1 pos) i x = ((row 12).drop ((row 12).length - k)).take i ++ x :: row pos := by
    rw [h4]
    have := mid_ins (((row 12).drop ((row 12).length - k)).take i) (row pos) x
    rw [el2] at this
    exact this
  rw [h5, h3, up_up]
  unfold goB
  rw [e3, List.append_assoc]
  rfl
theorem t5_goOut0 (hpos : pos < 12) (h1 : k ≤ (row 12).length) (h8 : (row 12).length ≤ 8) (h2 : (row pos).length + k ≤ 8) (h : ∀ m', aB (mvA 30 pos row k) (m' 0) → m_keep m m' → K m') : ∀ d i m1, i + d = k → aB (goA pos row k i) (m1 0) → m_keep m m1 → lpX5_goOut_9 K (d + 1) 0 (nI k) (nI pos) (nI i) m1 := by
  intro d
  induction d with
  | zero =>
    intro i m1 hi hB hs
    have e : i = k := by omega
    subst e
    unfold lpX5_goOut_9
    exact ⟨fun _ => h m1 (by rw [← goAk]; exact hB) hs, fun q => absurd (Int32.le_refl _) q⟩
  | succ d ih =>
    intro i m1 hi hB hs
    obtain ⟨l, hl, hst⟩ := goA_step (row := row) (k := k) (pos := pos) (i := i) hpos h1 (by omega)
    unfold lpX5_goOut_9
    refine ⟨fun q => absurd q (nI_ge (by omega) (by omega)), fun _ => ⟨fun _ => ?_, fun q => absurd rfl q⟩⟩
    rw [nI_m1 (by omega), pk_sub (by omega)]
    refine t5_tk hB (p := 12) (by decide) (i := k - 1 - i) (l := l) hl (fun m4 hB4 hk4 hs4 => ?_)
    obtain ⟨g1, g2⟩ := hst _ rfl
    refine t5_ins (p := pos) (i := i) hB4 (by omega) (by rw [g1]; omega) (by rw [g1]; omega) (fun m6 hB6 hk6 hs6 x7 e7 => ?_)
    rw [e7, nI_1]
    refine ih (i + 1) m6 (by omega) ?_ (hs.tr (m_keep.tr ⟨hk4, hs4⟩ ⟨hk6, hs6⟩))
    rw [← g2]
    exact hB6
theorem nI_back {c k i : Nat} (h1 : k ≤ c) (h2 : i ≤ c) : nI (c - i) - nI k + nI i = nI (c - k) := by
  rw [← pk_sub h1, ← pk_sub h2]
  grind
theorem t5_goOut1 (hpos : pos < 12) (h1 : k ≤ (row 12).length) (h8 : (row 12).length ≤ 8) (h2 : (row pos).length + k ≤ 8) (h : ∀ m', aB (mvA 40 pos row k) (m' 0) → m_keep m m' → K m') : ∀ d i m1, i + d = k → aB (goB pos row k i) (m1 0) → m_keep m m1 → lpX5_goOut_9 K (d + 1) 1 (nI k) (nI pos) (nI i) m1 := by
  intro d
  induction d with
  | zero =>
    intro i m1 hi hB hs
    have e : i = k := by omega
    subst e
    unfold lpX5_goOut_9
    exact ⟨fun _ => h m1 (by rw [← goBk _ h1]; exact hB) hs, fun q => absurd (Int32.le_refl _) q⟩
  | succ d ih =>
    intro i m1 hi hB hs
    obtain ⟨hc, l, hl, hst⟩ := goB_step (row := row) (k := k) (pos := pos) (i := i) hpos h1 (by omega)
    unfold lpX5_goOut_9
    refine ⟨fun q => absurd q (nI_ge (by omega) (by omega)), fun _ => ⟨fun q => absurd q (by decide), fun _ => ⟨vp_in_nI (n := 43) (by decide) (by decide), ?_⟩⟩⟩
    rw [c43, (hB 12 (by decide)).1, hc, nI_back h1 (by omega)]
    refine t5_tk hB (p := 12) (by decide) (i := (row 12).length - k) (l := l) hl (fun m4 hB4 hk4 hs4 => ?_)
    obtain ⟨g1, g2⟩ := hst _ rfl
    refine t5_ins (p := pos) (i := i) hB4 (by omega) (by rw [g1]; omega) (by rw [g1]; omega) (fun m6 hB6 hk6 hs6 x7 e7 => ?_)
    rw [e7, nI_1]
    refine ih (i + 1) m6 (by omega) ?_ (hs.tr (m_keep.tr ⟨hk4, hs4⟩ ⟨hk6, hs6⟩))
    rw [← g2]
    exact hB6
theorem pos_eq {e b : Nat} (he : e < 2) (ha : ang < 12) (hb : b = 10 ∨ b = 30) : posOf (b + 10 * e) ang = (ang + 6 * e) % 12 := by
  have : e = 0 ∨ e = 1 := by omega
  rcases hb with rfl | rfl <;> rcases this with rfl | rfl
  · show ang = _
    omega
  · rfl
  · show ang = _
    omega
  · rfl
theorem t5_goOut {e : Nat} (he : e < 2) (hA : aA len siz ded n ang (m 0)) (hB : aB row (m 0)) (h1 : k ≤ (row 12).length) (h2 : (row (posOf (30 + 10 * e) ang)).length + k ≤ 8) (h : ∀ m', aB (mvA (30 + 10 * e) (posOf (30 + 10 * e) ang) row k) (m' 0) → m_keep m m' → K m') : wX5_goOut (nI e) (nI k) m K := by
  have ha := hA.2.2.2.2.2.2
  refine t5_pointed hA he ⟨k + 1, ?_⟩
  rw [pos_eq he ha (Or.inr rfl)] at h2 h
  have hq : (ang + 6 * e) % 12 < 12 := Nat.mod_lt _ (by decide)
  generalize (ang + 6 * e) % 12 = pos at h2 h hq
  have h8 := (hB 12 (by decide)).2.1
  have : e = 0 ∨ e = 1 := by omega
  rcases this with rfl | rfl
  · exact t5_goOut0 hq h1 h8 h2 h k 0 m (by omega) (by rw [goA0 _ h1]; exact hB) m_keep.rf
  · exact t5_goOut1 hq h1 h8 h2 h k 0 m (by omega) (by rw [goB0]; exact hB) m_keep.rf
end MM
/-! the reference's reasons against a movement -/
section MW
variable {m : Mu} {len siz : Nat → Nat} {ded : Nat → Bool} {n ang : Nat} {row : Nat → List Nat} {K : Int32 → Prop} {s t from_ k : Nat}
def seg (row : Nat → List Nat) (s f i : Nat) : List Nat := ((row s).drop f).take i
def segErr (len siz : Nat → Nat) (ded : Nat → Bool) (row : Nat → List Nat) (s f k t : Nat) : Int32 := if (seg row s f k).all ded = true then -7 else if len t < sm siz (row t) + sm siz (seg row s f k) then -8 else 0
theorem t5_wrongMove_loop (hs : s < 13) (ht : t < 13) (hA : aA len siz ded n ang (m 0)) (hB : aB row (m 0)) (hrow : ∀ p, p < 13 → ∀ l ∈ row p, l < n) (h1 : from_ + k ≤ (row s).length) (h : K (segErr len siz ded row s from_ k t)) :
    ∀ d i, i + d = k → lpX5_wrongMove_9 m K (d + 1) (nI s) (nI from_) (nI k) (nI t) (nI (sm siz (seg row s from_ i))) (if (seg row s from_ i).all ded then 0 else 1) (nI (from_ + i)) := by
  obtain ⟨b1, b3, b4⟩ := hB _ hs
  obtain ⟨a1, -, a3, a4, a5, a6, -⟩ := id hA
  have hbig : ∀ p, p < 13 → ∀ xs : List Nat, (∀ l ∈ xs, l ∈ row p) → sm siz xs ≤ 20 * xs.length := fun p hp xs hx => sm_le (fun l hl => (a5 l (hrow p hp l (hx l hl))).2.2)
  have hsg : ∀ i, sm siz (seg row s from_ i) ≤ 160 := fun i => by
    have h5 := hbig s hs (seg row s from_ i) (fun l hl => List.mem_of_mem_drop (List.mem_of_mem_take hl))
    have h6 : (seg row s from_ i).length ≤ 8 := by
      unfold seg
      simp
      omega
    omega
  intro d
  induction d with
  | zero =>
    intro i hi
    have e : i = k := by omega
    subst e
    unfold lpX5_wrongMove_9
    rw [nI_add]
    refine ⟨fun _ => ?_, fun q => absurd (Int32.le_refl _) q⟩
    unfold segErr at h
    by_cases hd : (seg row s from_ i).all ded = true
    · rw [if_pos hd] at h ⊢
      exact ⟨fun _ => h, fun c => absurd rfl c⟩
    · rw [if_neg hd] at h ⊢
      refine ⟨fun c => absurd c (by decide), fun _ => t5_used hA hB ht (hrow t ht) ?_⟩
      rw [l0, nI_clamp (by omega), (a1 t ht).1, nI_add]
      refine ⟨vp_in_nI (by omega) (by decide), ?_⟩
      have hl60 := (a1 t ht).2
      have hs1 := hsg i
      have hs2 := hbig t ht (row t) (fun l hl => hl)
      have hs3 := (hB t ht).2.1
      by_cases h8 : len t < sm siz (row t) + sm siz (seg row s from_ i)
      · rw [if_pos h8] at h
        exact ⟨fun c => absurd ((nI_leI (by omega) (by omega)).mp c) (by omega), fun _ => h⟩
      · rw [if_neg h8] at h
        exact ⟨fun _ => h, fun c => absurd (nI_le (by omega) (by omega)) c⟩
  | succ d ih =>
    intro i hi
    have hic : from_ + i < (row s).length := by omega
    have hl := List.getElem?_eq_getElem hic
    generalize (row s)[from_ + i] = l at hl
    have hln : l < n := hrow _ hs l (List.mem_of_getElem? hl)
    have hsn : seg row s from_ (i + 1) = seg row s from_ i ++ [l] := by
      unfold seg
      refine take_snoc ?_
      rw [List.getElem?_drop]
      exact hl
    have s1 : sm siz (seg row s from_ (i + 1)) = sm siz (seg row s from_ i) + siz l := by
      rw [hsn, sm_app]
      rfl
    have s2 : (seg row s from_ (i + 1)).all ded = ((seg row s from_ i).all ded && ded l) := by
      rw [hsn, List.all_append]
      simp
    have hih := ih (i + 1) (by omega)
    rw [s2] at hih
    unfold lpX5_wrongMove_9
    rw [nI_add]
    refine ⟨fun q => absurd q (nI_ge (by omega) (by omega)), fun _ => t5_cell ⟨vp_in_nI (by omega) (by decide), fun x6 e6 => ?_⟩⟩
    rw [nI_clamp (by omega), b4 _ l hl] at e6
    rw [e6, l15, l23, nI_clamp (by omega), nI_clamp (by omega), (a5 l hln).1, a6 l hln, nI_add]
    refine ⟨vp_in_nI (by omega) (by decide), fun x7 e7 => ?_⟩
    rw [e7, ← s1]
    refine ⟨fun q => ?_, fun q x12 e12 => ?_⟩
    · have hall : (seg row s from_ i).all ded = true := by
        cases hb : (seg row s from_ i).all ded with
        | true => rfl
        | false => rw [hb] at q; exact absurd q (by decide)
      rw [hall] at hih
      refine ⟨vp_in_nI (by omega) (by decide), fun q2 x20 e20 => ?_, fun q2 x21 e21 => ?_⟩
      · have hd : ded l = false := by
          cases hb : ded l with
          | false => rfl
          | true => rw [hb] at q2; exact absurd q2 (by decide)
        rw [hd] at hih
        rw [e20, nI_1]
        exact hih
      · have hd : ded l = true := by
          cases hb : ded l with
          | true => rfl
          | false => rw [hb] at q2; exact absurd rfl q2
        rw [hd] at hih
        rw [e21, nI_1]
        exact hih
    · have hall : (seg row s from_ i).all ded = false := by
        cases hb : (seg row s from_ i).all ded with
        | false => rfl
        | true => rw [hb] at q; exact absurd rfl q
      rw [hall] at hih
      rw [e12, nI_1]
      exact hih
theorem t5_wrongMove (hs : s < 13) (ht : t < 13) (hA : aA len siz ded n ang (m 0)) (hB : aB row (m 0)) (hrow : ∀ p, p < 13 → ∀ l ∈ row p, l < n) (h1 : from_ + k ≤ (row s).length) (h : K (segErr len siz ded row s from_ k t)) : wX5_wrongMove (nI s) (nI from_) (nI k) (nI t) m K :=
  ⟨k + 1, t5_wrongMove_loop hs ht hA hB hrow h1 h k 0 (by omega)⟩
theorem seg_mv0 {kd : Nat} (hk : isKd kd) (h : kd ≠ 40) : seg row (srcOf kd ang) 0 k = mvd kd ang row k := by
  unfold seg mvd
  rw [if_neg h, List.drop_zero]
theorem seg_mv4 (h : k ≤ (row 12).length) : seg row 12 ((row 12).length - k) k = mvd 40 ang row k := by
  unfold seg mvd
  rw [if_pos rfl, List.take_of_length_le (by simp; omega)]
end MW
