/-! the reference's rows -/
/-- only the array 'at' changes -/
def m_same (m m' : Mu) : Prop := ∀ a, a ≠ 0 → m' a = m a
theorem m_same.rf {m : Mu} : m_same m m := fun _ _ => rfl
theorem m_same.tr {m m' m'' : Mu} (h : m_same m m') (h2 : m_same m' m'') : m_same m m'' := fun a h1 => (h2 a h1).trans (h a h1)
theorem m_same.up (m : Mu) (i : Nat) (x : Int32) : m_same m (mu_up m 0 i x) := fun _ h => pu_upn _ _ _ h
theorem l0 (p : Nat) : (0 : Int32) + nI p = nI p := by rw [show (0 : Int32) = nI 0 from rfl, nI_add, Nat.zero_add]
theorem l31 (p : Nat) : (31 : Int32) + nI p = nI (31 + p) := nI_add 31 p
theorem l15 (p : Nat) : (15 : Int32) + nI p = nI (15 + p) := nI_add 15 p
theorem l23 (p : Nat) : (23 : Int32) + nI p = nI (23 + p) := nI_add 23 p
theorem lcell (p i : Nat) : ((44 : Int32) + ((8 : Int32) * nI p)) + nI i = nI (44 + 8 * p + i) := by
  rw [show (8 : Int32) = nI 8 from rfl, pk_mul, show (44 : Int32) = nI 44 from rfl, nI_add, nI_add]
section MR
variable {m : Mu} {p : Nat}
theorem t5_cell {K : Int32 → Prop} {i : Nat} (h : K (nI (44 + 8 * p + i))) : wX5_cell (nI p) (nI i) m K := by
  show K _
  rw [lcell]
  exact h
theorem t5_take_loop {c i : Nat} {x : Int32} {K : Int32 → Mu → Prop} (hp : p < 13) (hc : m 0 (31 + p) = nI c) (hc8 : c ≤ 7) (h : ∀ m', m' 0 = sh_d (m 0) (44 + 8 * p) i c → m_same m m' → K x m') : ∀ d j, j + d = c → i ≤ j → lpX5_take_28 K (d + 1) (nI p) x (nI j) (mu_set m 0 (sh_d (m 0) (44 + 8 * p) i j)) := by
  have hv : vp_in (nI (31 + p)) 148 := vp_in_nI (by omega) (by decide)
  have hcl : (nI (31 + p)).toNatClampNeg = 31 + p := nI_clamp (by omega)
  have hcnt : ∀ j, sh_d (m 0) (44 + 8 * p) i j (31 + p) = nI c := fun j => by
    unfold sh_d
    rw [if_neg (by omega)]
    exact hc
  intro d
  induction d with
  | zero =>
    intro j hj hij
    have e : j = c := by omega
    subst e
    unfold lpX5_take_28
    rw [l31, hcl, pu_same, hcnt]
    exact ⟨hv, fun _ => h _ (pu_same _ _ _) (fun a ha => pu_ne _ _ ha), fun q => absurd (Int32.le_refl _) q⟩
  | succ d ih =>
    intro j hj hij
    unfold lpX5_take_28
    rw [l31, hcl, pu_same, hcnt]
    refine ⟨hv, fun q => absurd q (nI_ge (by omega) (by omega)), fun _ => t5_cell ?_⟩
    rw [nI_1]
    refine t5_cell ⟨vp_in_nI (by omega) (by decide), vp_in_nI (by omega) (by decide), fun m7 e7 x8 e8 => ?_⟩
    rw [nI_clamp (by omega), nI_clamp (by omega)] at e7
    have em : m7 = mu_set m 0 (sh_d (m 0) (44 + 8 * p) i (j + 1)) := by
      rw [e7]
      funext a
      by_cases ha : a = 0
      · subst ha
        rw [pu_up, pu_same, pu_same, ← sh_dS _ _ _ _ hij]
        congr 1
      · rw [pu_upn _ _ _ ha, pu_ne _ _ ha, pu_ne _ _ ha]
    rw [e8, em]
    exact ih (j + 1) (by omega) (by omega)
theorem t5_take {c i : Nat} {K : Int32 → Mu → Prop} (hp : p < 13) (hc : m 0 (31 + p) = nI c) (hc8 : c ≤ 8) (hi : i < c) (h : ∀ m', m' 0 = sh_d (upd (m 0) (31 + p) (nI (c - 1))) (44 + 8 * p) i (c - 1) → m_same m m' → K (m 0 (44 + 8 * p + i)) m') : wX5_take (nI p) (nI i) m K := by
  have hv : vp_in (nI (31 + p)) 148 := vp_in_nI (by omega) (by decide)
  refine t5_cell ⟨vp_in_nI (by omega) (by decide), fun x2 e2 => ?_⟩
  rw [nI_clamp (by omega)] at e2
  rw [l31]
  refine ⟨hv, hv, fun m3 e3 => ⟨c - 1 - i + 1, ?_⟩⟩
  rw [nI_clamp (by omega), hc, nI_m1 (by omega)] at e3
  have h3 : m3 0 = upd (m 0) (31 + p) (nI (c - 1)) := by rw [e3, pu_up]
  have := t5_take_loop (m := m3) (i := i) (x := x2) (K := K) hp (c := c - 1) (by rw [h3, pu_u]) (by omega) (fun m' g1 g2 => by
    rw [e2]
    refine h m' (by rw [g1, h3]) (fun a ha => ?_)
    rw [g2 a ha, e3, pu_upn _ _ _ ha]) (c - 1 - i) i (by omega) (Nat.le_refl _)
  rw [sh_d0, mu_set_self] at this
  exact this
theorem t5_insert_loop {c i : Nat} {x : Int32} {K : Mu → Prop} (hp : p < 13) (hc : m 0 (31 + p) = nI c) (hc8 : c < 8) (hi : i ≤ c) (h : ∀ m', m' 0 = upd (upd (sh_u (m 0) (44 + 8 * p) i c) (44 + 8 * p + i) x) (31 + p) (nI (c + 1)) → m_same m m' → K m') : ∀ d j, i + d = j → j ≤ c → lpX5_insert_11 K (d + 1) (nI p) (nI i) x (nI j) (mu_set m 0 (sh_u (m 0) (44 + 8 * p) j c)) := by
  have hv : vp_in (nI (31 + p)) 148 := vp_in_nI (by omega) (by decide)
  intro d
  induction d with
  | zero =>
    intro j hj hjc
    have e : j = i := by omega
    subst e
    unfold lpX5_insert_11
    refine ⟨fun _ => t5_cell ⟨vp_in_nI (by omega) (by decide), fun m4 e4 => ?_⟩, fun q => absurd (Int32.le_refl _) q⟩
    rw [l31]
    refine ⟨hv, hv, fun m5 e5 => ?_⟩
    rw [nI_clamp (by omega)] at e4 e5
    have h4 : m4 0 = upd (sh_u (m 0) (44 + 8 * p) j c) (44 + 8 * p + j) x := by rw [e4, pu_up, pu_same]
    have h5 : m4 0 (31 + p) = nI c := by
      rw [h4, pu_un _ _ (by omega)]
      unfold sh_u
      rw [if_neg (by omega)]
      exact hc
    rw [h5, nI_1] at e5
    refine h m5 (by rw [e5, pu_up, h4]) (fun a ha => ?_)
    rw [e5, pu_upn _ _ _ ha, e4, pu_upn _ _ _ ha, pu_ne _ _ ha]
  | succ d ih =>
    intro j hj hjc
    obtain ⟨j, rfl⟩ : ∃ k, j = k + 1 := ⟨j - 1, by omega⟩
    unfold lpX5_insert_11
    refine ⟨fun q => absurd q (nI_ge (by omega) (by omega)), fun _ => t5_cell ?_⟩
    rw [show nI (j + 1) - (1 : Int32) = nI j from nI_pred _]
    refine t5_cell ⟨vp_in_nI (by omega) (by decide), vp_in_nI (by omega) (by decide), fun m8 e8 x9 e9 => ?_⟩
    rw [nI_clamp (by omega), nI_clamp (by omega), pu_same] at e8
    have em : m8 = mu_set m 0 (sh_u (m 0) (44 + 8 * p) j c) := by
      rw [e8]
      funext a
      by_cases ha : a = 0
      · subst ha
        rw [pu_up, pu_same, pu_same, ← sh_uS _ _ _ _ hjc]
      · rw [pu_upn _ _ _ ha, pu_ne _ _ ha, pu_ne _ _ ha]
    rw [show x9 = nI j from by rw [e9]; exact pk_m1 j, em]
    exact ih j (by omega) (by omega)
theorem t5_insert {c i : Nat} {x : Int32} {K : Mu → Prop} (hp : p < 13) (hc : m 0 (31 + p) = nI c) (hc8 : c < 8) (hi : i ≤ c) (h : ∀ m', m' 0 = upd (upd (sh_u (m 0) (44 + 8 * p) i c) (44 + 8 * p + i) x) (31 + p) (nI (c + 1)) → m_same m m' → K m') : wX5_insert (nI p) (nI i) x m K := by
  unfold wX5_insert
  rw [l31]
  refine ⟨vp_in_nI (by omega) (by decide), fun x1 e1 => ⟨c - i + 1, ?_⟩⟩
  rw [nI_clamp (by omega), hc] at e1
  have := t5_insert_loop hp hc hc8 hi h (c - i) c (by omega) (Nat.le_refl _)
  rw [sh_u0, mu_set_self] at this
  rw [e1]
  exact this
end MR
/-- the reference's rows are these lists -/
def aB (row : Nat → List Nat) (f : Nat → Int32) : Prop := ∀ p, p < 13 → f (31 + p) = nI (row p).length ∧ (row p).length ≤ 8 ∧ ∀ (i l : Nat), (row p)[i]? = some l → f (44 + 8 * p + i) = nI l
/-- what else 'at' holds -/
def aA (len siz : Nat → Nat) (ded : Nat → Bool) (n ang : Nat) (f : Nat → Int32) : Prop := (∀ p, p < 13 → f p = nI (len p) ∧ len p ≤ 60) ∧ f 13 = nI ang ∧ f 14 = nI n ∧ n ≤ 8 ∧ (∀ l, l < n → f (15 + l) = nI (siz l) ∧ 1 ≤ siz l ∧ siz l ≤ 20) ∧ (∀ l, l < n → f (23 + l) = if ded l then 1 else 0) ∧ ang < 12
theorem aA.keep {len siz : Nat → Nat} {ded : Nat → Bool} {n ang : Nat} {f g : Nat → Int32} (h : aA len siz ded n ang f) (e : ∀ q, q < 31 → g q = f q) : aA len siz ded n ang g := by
  obtain ⟨h1, h2, h3, h4, h5, h6, h7⟩ := h
  exact ⟨fun p hp => by rw [e p (by omega)]; exact h1 p hp, by rw [e 13 (by decide)]; exact h2, by rw [e 14 (by decide)]; exact h3, h4, fun l hl => by rw [e _ (by omega)]; exact h5 l hl, fun l hl => by rw [e _ (by omega)]; exact h6 l hl, h7⟩
section MB
variable {m : Mu} {len siz : Nat → Nat} {ded : Nat → Bool} {n ang : Nat} {row : Nat → List Nat} {p : Nat}
theorem t5_tk {i l : Nat} {K : Int32 → Mu → Prop} (hB : aB row (m 0)) (hp : p < 13) (hl : (row p)[i]? = some l) (h : ∀ m', aB (va_up row p (eraAt (row p) i)) (m' 0) → (∀ q, q < 31 → m' 0 q = m 0 q) → m_same m m' → K (nI l) m') : wX5_take (nI p) (nI i) m K := by
  obtain ⟨h1, h3, h4⟩ := hB p hp
  have hi := (List.getElem?_eq_some_iff.mp hl).1
  refine t5_take hp h1 h3 hi (fun m' e hs => ?_)
  rw [h4 i l hl]
  refine h m' ?_ (fun q hq => ?_) hs
  · intro q hq
    by_cases hqp : q = p
    · subst hqp
      rw [va_up_self, e]
      refine ⟨?_, by rw [era_len hi]; omega, fun j x hx => ?_⟩
      · unfold sh_d
        rw [if_neg (by omega), pu_u, era_len hi]
      · rw [era_get hi] at hx
        unfold sh_d
        by_cases hj : j < i
        · rw [if_pos hj] at hx
          rw [if_neg (by omega), pu_un _ _ (by omega)]
          exact h4 j x hx
        · rw [if_neg hj] at hx
          have hj2 := (List.getElem?_eq_some_iff.mp hx).1
          rw [if_pos (by omega), pu_un _ _ (by omega)]
          exact h4 (j + 1) x hx
    · rw [va_up_ne _ _ hqp, e]
      obtain ⟨k1, k3, k4⟩ := hB q hq
      refine ⟨?_, k3, fun j x hx => ?_⟩
      · unfold sh_d
        rw [if_neg (by omega), pu_un _ _ (by omega)]
        exact k1
      · have hj := (List.getElem?_eq_some_iff.mp hx).1
        unfold sh_d
        rw [if_neg (by omega), pu_un _ _ (by omega)]
        exact k4 j x hx
  · rw [e]
    unfold sh_d
    rw [if_neg (by omega), pu_un _ _ (by omega)]
theorem t5_ins {i l : Nat} {K : Mu → Prop} (hB : aB row (m 0)) (hp : p < 13) (hi : i ≤ (row p).length) (hlen : (row p).length < 8) (h : ∀ m', aB (va_up row p (insAt (row p) i l)) (m' 0) → (∀ q, q < 31 → m' 0 q = m 0 q) → m_same m m' → K m') : wX5_insert (nI p) (nI i) (nI l) m K := by
  obtain ⟨h1, h3, h4⟩ := hB p hp
  refine t5_insert hp h1 hlen hi (fun m' e hs => h m' ?_ (fun q hq => ?_) hs)
  · intro q hq
    by_cases hqp : q = p
    · subst hqp
      rw [va_up_self, e]
      refine ⟨by rw [pu_u, ins_len _ _ hi], by rw [ins_len _ _ hi]; omega, fun j x hx => ?_⟩
      rw [ins_get _ hi] at hx
      rw [pu_un _ _ (by omega)]
      unfold upd sh_u
      by_cases hj : j < i
      · rw [if_pos hj] at hx
        rw [if_neg (by omega), if_neg (by omega)]
        exact h4 j x hx
      · rw [if_neg hj] at hx
        by_cases hj2 : j = i
        · rw [if_pos hj2] at hx
          cases hx
          rw [if_pos (by omega)]
        · rw [if_neg hj2] at hx
          have hj3 := (List.getElem?_eq_some_iff.mp hx).1
          rw [if_neg (by omega), if_pos (by omega), show 44 + 8 * q + j - 1 = 44 + 8 * q + (j - 1) by omega]
          exact h4 (j - 1) x hx
    · rw [va_up_ne _ _ hqp, e]
      obtain ⟨k1, k3, k4⟩ := hB q hq
      refine ⟨?_, k3, fun j x hx => ?_⟩
      · rw [pu_un _ _ (by omega), pu_un _ _ (by omega)]
        unfold sh_u
        rw [if_neg (by omega)]
        exact k1
      · have hj := (List.getElem?_eq_some_iff.mp hx).1
        rw [pu_un _ _ (by omega), pu_un _ _ (by omega)]
        unfold sh_u
        rw [if_neg (by omega)]
        exact k4 j x hx
  · rw [e, pu_un _ _ (by omega), pu_un _ _ (by omega)]
    unfold sh_u
    rw [if_neg (by omega)]
theorem t5_used_loop {K : Int32 → Prop} (hA : aA len siz ded n ang (m 0)) (hB : aB row (m 0)) (hp : p < 13) (hrow : ∀ l ∈ row p, l < n) (h : K (nI (sm siz (row p)))) : ∀ d j, j + d = (row p).length → lpX5_used_4 m K (d + 1) (nI p) (nI (sm siz ((row p).take j))) (nI j) := by
  obtain ⟨b1, b3, b4⟩ := hB p hp
  intro d
  induction d with
  | zero =>
    intro j hj
    have e : j = (row p).length := by omega
    subst e
    unfold lpX5_used_4
    rw [l31, nI_clamp (by omega), b1, List.take_length]
    exact ⟨vp_in_nI (by omega) (by decide), fun _ => h, fun q => absurd (Int32.le_refl _) q⟩
  | succ d ih =>
    intro j hj
    have hjl : j < (row p).length := by omega
    have hx := List.getElem?_eq_getElem hjl
    generalize (row p)[j] = x at hx
    have hxn := hrow x (List.mem_of_getElem? hx)
    obtain ⟨-, -, -, hn8, hsz, -, -⟩ := id hA
    unfold lpX5_used_4
    rw [l31, nI_clamp (by omega), b1]
    refine ⟨vp_in_nI (by omega) (by decide), fun q => absurd q (nI_ge hjl (by omega)), fun _ => t5_cell ⟨vp_in_nI (by omega) (by decide), ?_⟩⟩
    rw [nI_clamp (by omega), b4 j x hx, l15, nI_clamp (by omega), (hsz x hxn).1]
    refine ⟨vp_in_nI (by omega) (by decide), fun x3 e3 x4 e4 => ?_⟩
    have es : sm siz ((row p).take (j + 1)) = sm siz ((row p).take j) + siz x := by
      rw [take_snoc hx, sm_app]
      rfl
    rw [e3, e4, nI_add, nI_1, ← es]
    exact ih (j + 1) (by omega)
theorem t5_used {K : Int32 → Prop} (hA : aA len siz ded n ang (m 0)) (hB : aB row (m 0)) (hp : p < 13) (hrow : ∀ l ∈ row p, l < n) (h : K (nI (sm siz (row p)))) : wX5_used (nI p) m K :=
  ⟨(row p).length + 1, t5_used_loop hA hB hp hrow h (row p).length 0 (by omega)⟩
theorem t5_pointed {K : Int32 → Prop} {e : Nat} (hA : aA len siz ded n ang (m 0)) (he : e < 2) (h : K (nI ((ang + 6 * e) % 12))) : wX5_pointed (nI e) m K := by
  obtain ⟨-, h2, -, -, -, -, h7⟩ := hA
  refine ⟨vp_in_nI (n := 13) (by decide) (by decide), ?_⟩
  have e13 : (13 : Int32).toNatClampNeg = 13 := by decide
  rw [e13, h2, show (6 : Int32) = nI 6 from rfl, pk_mul, nI_add, rem12 (by omega)]
  exact h
theorem t5_isTrack {K : Int32 → Prop} (hA : aA len siz ded n ang (m 0)) (hp : p < 13) (h1 : 0 < len p → K 1) (h0 : len p = 0 → K 0) : wX5_isTrack (nI p) m K := by
  obtain ⟨h2, -⟩ := hA
  unfold wX5_isTrack
  rw [l0, nI_clamp (by omega), (h2 p hp).1]
  have h60 := (h2 p hp).2
  refine ⟨vp_in_nI (by omega) (by decide), fun q => h0 ?_, fun q => h1 ?_⟩
  · rcases Nat.eq_zero_or_pos (len p) with z | z
    · exact z
    · exact absurd q (nI_nle z (by omega))
  · rcases Nat.eq_zero_or_pos (len p) with z | z
    · exact absurd (by rw [z]; exact Int32.le_refl _) q
    · exact z
end MB
