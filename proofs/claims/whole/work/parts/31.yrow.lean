/-! the yard's rows: one locomotive out, one in -/
/-- a stretch moved down by one; up by one -/
def sh_d (f : Nat → Int32) (b i j : Nat) : Nat → Int32 := fun q => if b + i ≤ q ∧ q < b + j then f (q + 1) else f q
def sh_u (f : Nat → Int32) (b i j : Nat) : Nat → Int32 := fun q => if b + i < q ∧ q ≤ b + j then f (q - 1) else f q
theorem sh_d0 (f : Nat → Int32) (b i : Nat) : sh_d f b i i = f := by
  funext q
  unfold sh_d
  rw [if_neg (by omega)]
theorem sh_dS (f : Nat → Int32) (b i j : Nat) (h : i ≤ j) : upd (sh_d f b i j) (b + j) (sh_d f b i j (b + j + 1)) = sh_d f b i (j + 1) := by
  funext q
  unfold upd sh_d
  by_cases hq : q = b + j
  · subst hq
    rw [if_pos rfl, if_neg (by omega), if_pos (by omega)]
  · rw [if_neg hq]
    by_cases h2 : b + i ≤ q ∧ q < b + j
    · rw [if_pos h2, if_pos (by omega)]
    · rw [if_neg h2, if_neg (by omega)]
theorem sh_u0 (f : Nat → Int32) (b i : Nat) : sh_u f b i i = f := by
  funext q
  unfold sh_u
  rw [if_neg (by omega)]
theorem sh_uS (f : Nat → Int32) (b k c : Nat) (h : k + 1 ≤ c) : upd (sh_u f b (k + 1) c) (b + (k + 1)) (sh_u f b (k + 1) c (b + k)) = sh_u f b k c := by
  funext q
  unfold upd sh_u
  by_cases hq : q = b + (k + 1)
  · subst hq
    rw [if_pos rfl, if_neg (by omega), if_pos (by omega)]
    congr 1
  · rw [if_neg hq]
    by_cases h2 : b + (k + 1) < q ∧ q ≤ b + c
    · rw [if_pos h2, if_pos (by omega)]
    · rw [if_neg h2, if_neg (by omega)]
theorem nI_m1 {n : Nat} (h : 0 < n) : nI n - 1 = nI (n - 1) := pk_sub (a := n) (b := 1) h
/-- what a movement of one leaves: only used, counts and rows change -/
def y_same (m m' : Mu) : Prop := ∀ a, a ≠ 1 → a ≠ 2 → a ≠ 3 → m' a = m a
theorem y_same.rf {m : Mu} : y_same m m := fun _ _ _ _ => rfl
theorem y_same.tr {m m' m'' : Mu} (h : y_same m m') (h2 : y_same m' m'') : y_same m m'' := fun a h1 h3 h4 => (h2 a h1 h3 h4).trans (h a h1 h3 h4)
theorem t_takeOut_end {m : Mu} {p l c : Nat} {K : Int32 → Mu → Prop} {f : Nat → Int32} (hp : p < 13) (hc : m 2 p = nI c) (h0 : 0 < c) (hl8 : l < 8) (h : ∀ m', m' 2 = upd (m 2) p (nI (c - 1)) → m' 1 = upd (m 1) p (m 1 p - m 4 l) → m' 3 = f → y_same m m' → K (nI l) m') : jnX3_takeOut_73 K (nI p) (nI l) (mu_set m 3 f) := by
  have hv : vp_in (nI p) 13 := vp_in_nI hp (by decide)
  have hcl : (nI p).toNatClampNeg = p := nI_clamp (by omega)
  refine ⟨hv, hv, fun m6 e6 => ⟨hv, t_sizeOf hl8 ⟨hv, fun m8 e8 => ?_⟩⟩⟩
  rw [hcl, pu_ne _ _ (by decide), hc, nI_m1 h0] at e6
  rw [hcl] at e8
  refine h m8 ?_ ?_ ?_ ?_
  · rw [e8, pu_upn _ _ _ (by decide), e6, pu_up, pu_ne _ _ (by decide)]
  · rw [e8, pu_up, e6, pu_upn _ _ _ (by decide), pu_upn _ _ _ (by decide), pu_ne _ _ (by decide), pu_ne _ _ (by decide)]
  · rw [e8, pu_upn _ _ _ (by decide), e6, pu_upn _ _ _ (by decide), pu_same]
  · intro a h1 h2 h3
    rw [e8, pu_upn _ _ _ h1, e6, pu_upn _ _ _ h2, pu_ne _ _ h3]
theorem t_takeOut_loop {m : Mu} {p l c i : Nat} {K : Int32 → Mu → Prop} (hp : p < 13) (hc : m 2 p = nI c) (hc8 : c ≤ 8) (hi : i < c) (hl8 : l < 8) (h : ∀ m', m' 2 = upd (m 2) p (nI (c - 1)) → m' 1 = upd (m 1) p (m 1 p - m 4 l) → m' 3 = sh_d (m 3) (8 * p) i (c - 1) → y_same m m' → K (nI l) m') : ∀ d j, j + d = c - 1 → i ≤ j → lpX3_takeOut_27 K (d + 1) (nI p) (nI l) (nI (8 * p)) (nI (j + 1)) (mu_set m 3 (sh_d (m 3) (8 * p) i j)) := by
  have hv : vp_in (nI p) 13 := vp_in_nI hp (by decide)
  have hcl : (nI p).toNatClampNeg = p := nI_clamp (by omega)
  intro d
  induction d with
  | zero =>
    intro j hj hij
    have e : j = c - 1 := by omega
    subst e
    unfold lpX3_takeOut_27
    rw [hcl, pu_ne _ _ (by decide), hc]
    refine ⟨hv, fun _ => t_takeOut_end hp hc (by omega) hl8 h, fun q => absurd (nI_le (by omega) (by omega)) q⟩
  | succ d ih =>
    intro j hj hij
    unfold lpX3_takeOut_27
    rw [hcl, pu_ne _ _ (by decide), hc]
    refine ⟨hv, fun q => absurd q (nI_ge (by omega) (by omega)), fun _ => ⟨fun q => absurd q (nI_ge (b := 8) (by omega) (by decide)), fun _ => ?_⟩⟩
    rw [nI_add, show 8 * p + (j + 1) = 8 * p + j + 1 by omega, show nI (8 * p + j + 1) - (1 : Int32) = nI (8 * p + j) from nI_pred _, nI_clamp (by omega), nI_clamp (by omega), pu_same]
    refine ⟨vp_in_nI (by omega) (by decide), vp_in_nI (by omega) (by decide), fun m10 e10 x11 e11 => ?_⟩
    have ex : x11 = nI (j + 1 + 1) := by rw [e11]; exact nI_1 _
    have em : m10 = mu_set m 3 (sh_d (m 3) (8 * p) i (j + 1)) := by
      rw [e10]
      funext a
      by_cases ha : a = 3
      · subst ha
        rw [pu_up, pu_same, pu_same, sh_dS _ _ _ _ hij]
      · rw [pu_upn _ _ _ ha, pu_ne _ _ ha, pu_ne _ _ ha]
    rw [ex, em]
    exact ih (j + 1) (by omega) (by omega)
theorem mu_set_self (m : Mu) (a : Nat) : mu_set m a (m a) = m := by
  funext b
  by_cases h : b = a
  · subst h; exact pu_same _ _ _
  · exact pu_ne _ _ h
theorem ne_m11 {l : Nat} (h : l < 2 ^ 31) : ¬ nI l = (-11 : Int32) := by
  intro e
  have := congrArg Int32.toInt e
  rw [nI_toInt h] at this
  have h2 : (-11 : Int32).toInt = -11 := by decide
  omega
theorem t_takeOut {m : Mu} {p l c i : Nat} {K : Int32 → Mu → Prop} (hp : p < 13) (hc : m 2 p = nI c) (hc8 : c ≤ 8) (hi : i < c) (hl : m 3 (8 * p + i) = nI l) (hl8 : l < 8) (h : ∀ m', m' 2 = upd (m 2) p (nI (c - 1)) → m' 1 = upd (m 1) p (m 1 p - m 4 l) → m' 3 = sh_d (m 3) (8 * p) i (c - 1) → y_same m m' → K (nI l) m') : wX3_takeOut (nI p) (nI i) m K := by
  refine t_locAt hp hc hc8 hi ?_
  rw [hl]
  refine ⟨fun q => absurd q (ne_m11 (by omega)), fun _ x3 e3 x4 e4 => ⟨c - 1 - i + 1, ?_⟩⟩
  have ex3 : x3 = nI (8 * p) := by rw [e3, show (8 : Int32) = nI 8 from rfl, pk_mul, Nat.mul_comm]
  have ex4 : x4 = nI (i + 1) := by rw [e4]; exact nI_1 _
  have := t_takeOut_loop hp hc hc8 hi hl8 h (c - 1 - i) i (by omega) (Nat.le_refl _)
  rw [sh_d0, mu_set_self] at this
  rw [ex3, ex4]
  exact this
theorem t_putIn_loop {m : Mu} {p l c i : Nat} {K : Mu → Prop} (hp : p < 13) (hc : m 2 p = nI c) (hc8 : c < 8) (hi : i ≤ c) (hl8 : l < 8) (h : ∀ m', m' 2 = upd (m 2) p (nI (c + 1)) → m' 1 = upd (m 1) p (m 1 p + m 4 l) → m' 3 = upd (sh_u (m 3) (8 * p) i c) (8 * p + i) (nI l) → y_same m m' → K m') : ∀ d j, i + d = j → j ≤ c → lpX3_putIn_45 K (d + 1) (nI p) (nI i) (nI l) (nI (8 * p)) (nI j) (mu_set m 3 (sh_u (m 3) (8 * p) j c)) := by
  have hv : vp_in (nI p) 13 := vp_in_nI hp (by decide)
  have hcl : (nI p).toNatClampNeg = p := nI_clamp (by omega)
  intro d
  induction d with
  | zero =>
    intro j hj hjc
    have e : j = i := by omega
    subst e
    unfold lpX3_putIn_45
    refine ⟨fun _ => ?_, fun q => absurd (Int32.le_refl _) q⟩
    rw [nI_add, nI_clamp (by omega), hcl]
    refine ⟨vp_in_nI (by omega) (by decide), fun m9 e9 => ⟨hv, hv, fun m10 e10 => ⟨hv, t_sizeOf hl8 ⟨hv, fun m12 e12 => ?_⟩⟩⟩⟩
    have h9 : m9 2 = m 2 := by rw [e9, pu_upn _ _ _ (by decide), pu_ne _ _ (by decide)]
    rw [h9, hc, nI_1] at e10
    refine h m12 ?_ ?_ ?_ ?_
    · rw [e12, pu_upn _ _ _ (by decide), e10, pu_up, h9]
    · rw [e12, pu_up, e10, pu_upn _ _ _ (by decide), pu_upn _ _ _ (by decide), e9, pu_upn _ _ _ (by decide), pu_upn _ _ _ (by decide), pu_ne _ _ (by decide), pu_ne _ _ (by decide)]
    · rw [e12, pu_upn _ _ _ (by decide), e10, pu_upn _ _ _ (by decide), e9, pu_up, pu_same]
    · intro a h1 h2 h3
      rw [e12, pu_upn _ _ _ h1, e10, pu_upn _ _ _ h2, e9, pu_upn _ _ _ h3, pu_ne _ _ h3]
  | succ d ih =>
    intro j hj hjc
    obtain ⟨j, rfl⟩ : ∃ k, j = k + 1 := ⟨j - 1, by omega⟩
    unfold lpX3_putIn_45
    refine ⟨fun q => absurd q (nI_ge (by omega) (by omega)), fun _ => ?_⟩
    rw [nI_add, show 8 * p + (j + 1) = 8 * p + j + 1 by omega, show nI (8 * p + j + 1) - (1 : Int32) = nI (8 * p + j) from nI_pred _, nI_clamp (by omega), nI_clamp (by omega), pu_same]
    refine ⟨vp_in_nI (by omega) (by decide), vp_in_nI (by omega) (by decide), fun m13 e13 x14 e14 => ?_⟩
    have ex : x14 = nI j := by rw [e14]; exact pk_m1 j
    have em : m13 = mu_set m 3 (sh_u (m 3) (8 * p) j c) := by
      rw [e13]
      funext a
      by_cases ha : a = 3
      · subst ha
        rw [pu_up, pu_same, pu_same, ← sh_uS _ _ _ _ hjc]
        congr 1
      · rw [pu_upn _ _ _ ha, pu_ne _ _ ha, pu_ne _ _ ha]
    rw [ex, em]
    exact ih j (by omega) (by omega)
theorem t_putIn {m : Mu} {p l c i : Nat} {K : Mu → Prop} (hp : p < 13) (hc : m 2 p = nI c) (hc8 : c < 8) (hi : i ≤ c) (hl8 : l < 8) (h : ∀ m', m' 2 = upd (m 2) p (nI (c + 1)) → m' 1 = upd (m 1) p (m 1 p + m 4 l) → m' 3 = upd (sh_u (m 3) (8 * p) i c) (8 * p + i) (nI l) → y_same m m' → K m') : wX3_putIn (nI p) (nI i) (nI l) m K := by
  refine t_countAt hp ?_
  rw [hc]
  refine ⟨fun q => absurd q (nI_pos (by omega)), fun _ => ⟨fun q => absurd q (nI_ge (b := 13) hp (by decide)), fun _ => ⟨fun q => absurd q (nI_pos (by omega)), fun _ => ⟨fun q => absurd q (nI_nlt hi (by omega)), fun _ => ⟨fun _ x7 e7 => ⟨c - i + 1, ?_⟩, fun q => absurd (nI_lt (a := c) (b := 8) hc8 (by decide)) q⟩⟩⟩⟩⟩
  have ex7 : x7 = nI (8 * p) := by rw [e7, show (8 : Int32) = nI 8 from rfl, pk_mul, Nat.mul_comm]
  have := t_putIn_loop hp hc hc8 hi hl8 h (c - i) c (by omega) (Nat.le_refl _)
  rw [sh_u0, mu_set_self] at this
  rw [ex7]
  exact this
