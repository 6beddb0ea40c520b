/-! the planner's view: rows shown, numbers read -/
def pS (m m' : Mu) : Prop := ∀ a, a ≠ 2 → a ≠ 21 → a ≠ 22 → a ≠ 23 → m' a = m a
theorem pS.rf {m : Mu} : pS m m := fun _ _ _ _ _ => rfl
theorem pS.tr {m m' m'' : Mu} (h : pS m m') (h2 : pS m' m'') : pS m m'' := fun a h1 h3 h4 h5 => (h2 a h1 h3 h4 h5).trans (h a h1 h3 h4 h5)
theorem put_in {m k : Mu} {o n a : Nat} (h : a < n) : mu_put m o n k (o + a) = k a := by
  have h1 : Nat.ble o (o + a) = true := Nat.ble_eq.mpr (by omega)
  have h2 : Nat.blt (o + a) (o + n) = true := Nat.blt_eq.mpr (by omega)
  unfold mu_put
  rw [h1, h2, Nat.add_sub_cancel_left]
  rfl
theorem put_out {m k : Mu} {o n a : Nat} (h : a < o ∨ o + n ≤ a) : mu_put m o n k a = m a := by
  unfold mu_put
  have : (Nat.ble o a && Nat.blt a (o + n)) = false := by
    rcases h with z | z
    · have : Nat.ble o a = false := by
        cases e : Nat.ble o a with
        | false => rfl
        | true => have := Nat.ble_eq.mp e; omega
      rw [this]; rfl
    · have : Nat.blt a (o + n) = false := by
        cases e : Nat.blt a (o + n) with
        | false => rfl
        | true => have := Nat.blt_eq.mp e; omega
      rw [this]; simp
  rw [this]
  rfl
section VW
variable {m k : Mu}
theorem put_view (h : y_same (mu_sub m 20) k) : mu_sub (mu_put m 20 9 k) 20 = k := by
  funext a
  show mu_put m 20 9 k (20 + a) = k a
  by_cases ha : a < 9
  · exact put_in ha
  · rw [put_out (by omega)]
    exact (h a (by omega) (by omega) (by omega)).symm
theorem put_viewS (h : y_same (mu_sub m 20) k) : pS m (mu_put m 20 9 k) := fun a h2 h21 h22 h23 => by
  by_cases ha : 20 ≤ a ∧ a < 29
  · obtain ⟨b, rfl⟩ : ∃ b, a = 20 + b := ⟨a - 20, by omega⟩
    rw [put_in (by omega)]
    exact h b (by omega) (by omega) (by omega)
  · exact put_out (by omega)
theorem plM.keep {P : List Nat} {m m' : Mu} (h : plM P m) (e1 : m' 1 = m 1) (e2 : m' 13 8 = m 13 8) : plM P m' := ⟨e2.trans h.1, fun i x hx => (congrFun e1 i).trans (h.2 i x hx)⟩
theorem pS.pl {P : List Nat} {m m' : Mu} (h : plM P m) (e : pS m m') : plM P m' := h.keep (e 1 (by decide) (by decide) (by decide) (by decide)) (congrFun (e 13 (by decide) (by decide) (by decide) (by decide)) 8)
end VW
section SH
variable {m : Mu} {K : Mu → Prop} {P : List Nat} {row : Nat → List Nat} {siz : Nat → Nat} {l s n : Nat}
theorem flt_length : (flt row P).length = P.length + (P.flatMap row).length := by
  induction P with
  | nil => rfl
  | cons p ps ih =>
    show ((row p).map (· + 1) ++ 0 :: flt row ps).length = _
    rw [List.flatMap_cons]
    simp [ih]; omega
theorem row_le {p : Nat} (hp : p ∈ P) : (row p).length ≤ (P.flatMap row).length := by
  induction P with
  | nil => simp at hp
  | cons q qs ih =>
    rw [List.flatMap_cons, List.length_append]
    rcases List.mem_cons.mp hp with e | e
    · rw [e]; omega
    · have := ih e; omega
theorem rem_nI {a d : Nat} (ha : a < 2 ^ 31) (h0 : 0 < d) (hd : d < 2 ^ 31) : am_rem (nI a) (nI d) = nI (a % d) := pk_rem ha h0 hd
theorem drop_cons' {xs : List Nat} {i l : Nat} (h : xs[i]? = some l) : xs.drop i = l :: xs.drop (i + 1) := drop_cons h
theorem t1_put_loop (hm : plM P m) (h6 : P.length ≤ 6) (hP : ∀ p ∈ P, p < 13) (hB : yB siz row (mu_sub m 20)) (hlen : ∀ p ∈ P, (row p).length < 8) (hl : l < 8) (hsz : m 24 l = nI (siz l)) (hs : s < 1000) (hK : ∀ m', yB siz (pil row l P s) (mu_sub m' 20) → pS m m' → K m') : ∀ d j f, j + d = P.length → f ≤ s → s - f < (flt row (P.drop j)).length → pil row l P s = pil row l (P.drop j) (s - f) → lpX1_putIntoLine_5 K (d + 1) (nI l) (nI s) (nI f) (nI j) m := by
  intro d
  induction d with
  | zero =>
    intro j f hj hf hlt
    rw [List.drop_of_length_le (by omega)] at hlt
    exact absurd hlt (Nat.not_lt_zero _)
  | succ d ih =>
    intro j f hj hf hlt he
    have hx := List.getElem?_eq_getElem (show j < P.length by omega)
    have hp : P[j] ∈ P := List.getElem_mem _
    have hp13 := hP _ hp
    have hl8 := hlen _ hp
    have hpm := hm.2 j _ hx
    rw [drop_cons' hx] at hlt he
    unfold lpX1_putIntoLine_5
    refine pk_le P.length j (fun z => absurd z (by omega)) (fun _ => pk_le 6 j (fun z => absurd z (by omega)) (fun _ => ⟨pk_in j 6 (by omega), ?_⟩)) (hx := hm.1)
    rw [nI_clamp (by omega), hpm]
    refine t_countAt hp13 ?_
    rw [(hB _ hp13).1, nI_add]
    refine pk_lt (f + (row P[j]).length) s (fun z x5 e5 x6 e6 => ?_) (fun z => ⟨pk_in j 6 (by omega), ?_⟩)
    · rw [e5, e6, nI_1, nI_1, nI_add]
      have e0 : pil row l (P[j] :: P.drop (j + 1)) (s - f) = pil row l (P.drop (j + 1)) (s - f - ((row P[j]).length + 1)) := by
        show (if s - f ≤ (row P[j]).length then _ else _) = _
        rw [if_neg (by omega)]
      have e1 : s - f - ((row P[j]).length + 1) = s - (f + ((row P[j]).length + 1)) := by omega
      refine ih (j + 1) _ (by omega) (by omega) ?_ ?_
      · have : (flt row (P[j] :: P.drop (j + 1))).length = (row P[j]).length + 1 + (flt row (P.drop (j + 1))).length := by
          show ((row P[j]).map (· + 1) ++ 0 :: flt row (P.drop (j + 1))).length = _
          simp; omega
        omega
      · rw [he, e0, e1]
    · rw [pk_sub hf]
      have e0 : pil row l (P[j] :: P.drop (j + 1)) (s - f) = va_up row P[j] (insAt (row P[j]) (s - f) l) := by
        show (if s - f ≤ (row P[j]).length then _ else _) = _
        rw [if_pos (by omega)]
      refine t_put hB hp13 (by omega) hl8 hl hsz (fun k7 hk7 hs7 m8 e8 => ?_)
      rw [e8]
      refine hK _ ?_ (put_viewS hs7)
      rw [put_view hs7, he, e0]
      exact hk7
theorem t1_put (hm : plM P m) (h6 : P.length ≤ 6) (hP : ∀ p ∈ P, p < 13) (hB : yB siz row (mu_sub m 20)) (hlen : ∀ p ∈ P, (row p).length < 8) (hl : l < 8) (hsz : m 24 l = nI (siz l)) (hs : s < 1000) (hlt : s < (flt row P).length) (hK : ∀ m', yB siz (pil row l P s) (mu_sub m' 20) → pS m m' → K m') : wX1_putIntoLine (nI l) (nI s) m K :=
  ⟨P.length + 1, t1_put_loop hm h6 hP hB hlen hl hsz hs hK P.length 0 0 (by omega) (by omega) (by simpa using hlt) (by simp)⟩
theorem t1_ways {K : Int32 → Prop} {i : Nat} (hm : plM P m) (hP : P ≠ []) (h6 : P.length ≤ 6) (hi : i < 100) (h : K (nI (P.length + i))) : wX1_waysToPut (nI i) m K := by
  have h1 : 0 < P.length := List.length_pos_iff.mpr hP
  unfold wX1_waysToPut wJ9_max_7cf53
  rw [hm.1, nI_add]
  exact pk_lt 1 (P.length + i) (fun _ => h) (fun z => by rw [show P.length + i = 1 by omega] at h; exact h)
theorem t1_show_loop (hm : plM P m) (hPn : P.Nodup) (hPe : P ≠ []) (h6 : P.length ≤ 6) (hP : ∀ p ∈ P, p < 13) (hn : m 28 5 = nI n) (hn3 : n ≤ 3) (hsz : ∀ l, l < n → m 24 l = nI (siz l)) {R : Nat → List Nat} (hK : ∀ m', yB siz R (mu_sub m' 20) → pS m m' → K m') : ∀ d i rest row m1, i + d = n → rest < 2 ^ 31 → (flt row P).length = P.length + i → yB siz row (mu_sub m1 20) → pS m m1 → shR P d i rest row = R → lpX1_showRows_14 K (d + 1) (nI rest) (nI i) m1 := by
  intro d
  induction d with
  | zero =>
    intro i rest row m1 hi hr hF hB hS hR
    have e : i = n := by omega
    subst e
    unfold lpX1_showRows_14
    refine pk_le i i (fun _ => hK m1 (by rw [← hR]; exact hB) hS) (fun z => absurd z (by omega)) (hx := ?_)
    rw [hS 28 (by decide) (by decide) (by decide) (by decide)]; exact hn
  | succ d ih =>
    intro i rest row m1 hi hr hF hB hS hR
    have hpos : 0 < P.length := List.length_pos_iff.mpr hPe
    have hm1 := hS.pl hm
    unfold lpX1_showRows_14
    refine pk_le n i (fun z => absurd z (by omega)) (fun _ => pk_le 3 i (fun z => absurd z (by omega)) (fun _ => ?_)) (hx := ?_)
    · refine t1_ways hm1 hPe h6 (by omega) ⟨nI_ne0 (by omega) (by omega), ?_⟩
      have hmod : rest % (P.length + i) < P.length + i := Nat.mod_lt _ (by omega)
      rw [rem_nI hr (by omega) (by omega)]
      refine t1_put hm1 h6 hP hB (fun p hp => ?_) (by omega) ?_ (by omega) (by omega) (fun m7 hB7 hS7 => ⟨nI_ne0 (by omega) (by omega), fun x8 e8 x9 e9 => ?_⟩)
      · have h1 := row_le (row := row) hp
        have h2 := flt_length (row := row) (P := P)
        omega
      · rw [hS 24 (by decide) (by decide) (by decide) (by decide)]; exact hsz i (by omega)
      · rw [e8, e9, nI_1, pk_div hr (by omega) (by omega)]
        refine ih (i + 1) _ (pil row i P (rest % (P.length + i))) m7 (by omega) (Nat.lt_of_le_of_lt (Nat.div_le_self _ _) hr) ?_ hB7 (hS.tr hS7) hR
        rw [flt_pil hPn (by omega), ins_len _ _ (by omega)]
        omega
    · rw [hS 28 (by decide) (by decide) (by decide) (by decide)]; exact hn
theorem t1_show {s : Nat} (hm : plM P m) (hPn : P.Nodup) (hPe : P ≠ []) (h6 : P.length ≤ 6) (hP : ∀ p ∈ P, p < 13) (hn : m 28 5 = nI n) (hn3 : n ≤ 3) (hsz : ∀ l, l < n → m 24 l = nI (siz l)) (hs : s < 2 ^ 31) (hK : ∀ m', yB siz (shR P n 0 (s / 12) (fun _ => [])) (mu_sub m' 20) → pS m m' → K m') : wX1_showRows (nI s) m K := by
  refine t_emptyRows (siz := siz) (fun k1 hB1 hS1 m2 e2 x3 e3 => ⟨n + 1, ?_⟩)
  rw [e3, show (12 : Int32) = nI 12 from rfl, pk_div hs (by decide) (by decide), e2]
  refine t1_show_loop hm hPn hPe h6 hP hn hn3 hsz hK n 0 (s / 12) (fun _ => []) _ (by omega) (by omega) (by rw [flt_nil]; simp) ?_ (put_viewS hS1) rfl
  rw [put_view hS1]; exact hB1
end SH
