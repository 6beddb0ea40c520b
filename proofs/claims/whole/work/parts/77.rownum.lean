/-! rows by their number, and the reference's numbers of situations -/
def rws (P : List Nat) (row : Nat → List Nat) (r : Nat) : List Nat := match P[r]? with | some p => row p | none => []
def pre (R : Nat → List Nat) : Nat → List Nat
  | 0 => []
  | r + 1 => pre R r ++ R r
def dls (R : Nat → List Nat) : Nat → List Nat
  | 0 => []
  | r + 1 => dls R r ++ [(R r).length]
def sg (C D : List Nat) (r : Nat) : List Nat := (C.drop (D.take r).sum).take (D.getD r 0)
section RW
variable {R : Nat → List Nat} {C D P : List Nat} {row : Nat → List Nat}
theorem dls_len : ∀ N, (dls R N).length = N
  | 0 => rfl
  | N + 1 => by show (dls R N ++ [_]).length = _; simp [dls_len N]
theorem dls_sum : ∀ N, (dls R N).sum = (pre R N).length
  | 0 => rfl
  | N + 1 => by show (dls R N ++ [_]).sum = (pre R N ++ R N).length; simp [dls_sum N]
theorem dls_take {r : Nat} : ∀ N, r ≤ N → (dls R N).take r = dls R r
  | 0, h => by have : r = 0 := by omega
               subst this; rfl
  | N + 1, h => by
    by_cases e : r = N + 1
    · subst e
      rw [List.take_of_length_le (by rw [dls_len]; exact Nat.le_refl _)]
    · show (dls R N ++ [_]).take r = _
      rw [List.take_append_of_le_length (by rw [dls_len]; omega), dls_take N (by omega)]
theorem dls_get {r : Nat} : ∀ N, r < N → (dls R N)[r]? = some (R r).length
  | 0, h => absurd h (by omega)
  | N + 1, h => by
    show (dls R N ++ [(R N).length])[r]? = _
    by_cases e : r = N
    · subst e
      rw [List.getElem?_append_right (by rw [dls_len]; exact Nat.le_refl _), dls_len]
      simp
    · rw [List.getElem?_append_left (by rw [dls_len]; omega), dls_get N (by omega)]
theorem pre_split {r : Nat} : ∀ N, r < N → ∃ B, pre R N = pre R r ++ (R r ++ B)
  | 0, h => absurd h (by omega)
  | N + 1, h => by
    by_cases e : r = N
    · subst e
      exact ⟨[], by simp [pre]⟩
    · obtain ⟨B, hB⟩ := pre_split N (show r < N by omega)
      exact ⟨B ++ R N, by show pre R N ++ R N = _; rw [hB]; simp⟩
theorem getD_of {r d : Nat} (h : D[r]? = some d) : D.getD r 0 = d := by simp [List.getD, h]
theorem sg_pre {r N : Nat} (h : r < N) : sg (pre R N) (dls R N) r = R r := by
  obtain ⟨B, hB⟩ := pre_split (R := R) N h
  unfold sg
  rw [getD_of (dls_get N h), dls_take N (by omega), dls_sum, hB, List.drop_left, List.take_left]
theorem pre_rws : ∀ r, pre (rws P row) r = (P.take r).flatMap row
  | 0 => by simp [pre]
  | r + 1 => by
    show pre (rws P row) r ++ rws P row r = _
    rw [pre_rws r]
    unfold rws
    cases h : P[r]? with
    | none =>
      have : P.length ≤ r := List.getElem?_eq_none_iff.mp h
      rw [List.take_of_length_le this, List.take_of_length_le (by omega)]
      simp
    | some p =>
      rw [take_snoc h, List.flatMap_append]
      simp
theorem pre_all (h6 : P.length ≤ 6) : pre (rws P row) 6 = P.flatMap row := by rw [pre_rws, List.take_of_length_le h6]
theorem sum_takeS {r d : Nat} (h : D[r]? = some d) : (D.take (r + 1)).sum = (D.take r).sum + d := by rw [take_snoc h]; simp
theorem sum_take_le : ∀ (D : List Nat) (r : Nat), (D.take r).sum ≤ D.sum
  | [], r => by simp
  | d :: ds, 0 => by simp
  | d :: ds, r + 1 => by have := sum_take_le ds r; simp; omega
theorem sg_len {r d : Nat} (h : D[r]? = some d) (hs : D.sum ≤ C.length) : (sg C D r).length = d := by
  have h1 := sum_takeS h
  have h2 := sum_take_le D (r + 1)
  unfold sg
  rw [getD_of h, List.length_take, List.length_drop]
  omega
theorem sg_get {r d k : Nat} (h : D[r]? = some d) (hk : k < d) : (sg C D r)[k]? = C[(D.take r).sum + k]? := by
  unfold sg
  rw [getD_of h, List.getElem?_take, if_pos hk, List.getElem?_drop]
theorem pre_sg (hs : D.sum ≤ C.length) : ∀ r, r ≤ D.length → pre (sg C D) r = C.take (D.take r).sum
  | 0, _ => by simp [pre]
  | r + 1, h => by
    have hx := List.getElem?_eq_getElem (show r < D.length by omega)
    show pre (sg C D) r ++ sg C D r = _
    rw [pre_sg hs r (by omega), sum_takeS hx]
    unfold sg
    rw [getD_of hx, List.take_add]
theorem dls_sg (hs : D.sum ≤ C.length) : ∀ r, r ≤ D.length → dls (sg C D) r = D.take r
  | 0, _ => by simp [dls]
  | r + 1, h => by
    have hx := List.getElem?_eq_getElem (show r < D.length by omega)
    show dls (sg C D) r ++ [(sg C D r).length] = _
    rw [dls_sg hs r (by omega), sg_len hx hs, take_snoc hx]
theorem dls_cong {R' : Nat → List Nat} : ∀ N, (∀ r, r < N → R r = R' r) → dls R N = dls R' N
  | 0, _ => rfl
  | N + 1, h => by
    show dls R N ++ [(R N).length] = dls R' N ++ [(R' N).length]
    rw [dls_cong N (fun r hr => h r (by omega)), h N (by omega)]
theorem pre_cong {R' : Nat → List Nat} : ∀ N, (∀ r, r < N → R r = R' r) → pre R N = pre R' N
  | 0, _ => rfl
  | N + 1, h => by
    show pre R N ++ R N = pre R' N ++ R' N
    rw [pre_cong N (fun r hr => h r (by omega)), h N (by omega)]
theorem dls_mem : ∀ N, ∀ x ∈ dls R N, ∃ r, r < N ∧ x = (R r).length
  | 0, x, h => by simp [dls] at h
  | N + 1, x, h => by
    rcases List.mem_append.mp h with z | z
    · obtain ⟨r, h1, h2⟩ := dls_mem N x z
      exact ⟨r, by omega, h2⟩
    · simp at z
      exact ⟨N, by omega, z⟩
/-- rows given by number, as rows of places -/
def rowP (P : List Nat) (R : Nat → List Nat) (p : Nat) : List Nat := match P.idxOf? p with | some r => R r | none => []
theorem rws_rowP (hP : P.Nodup) {r : Nat} (hr : r < P.length) : rws P (rowP P R) r = R r := by
  have hx := List.getElem?_eq_getElem hr
  unfold rws rowP
  rw [hx]
  have : P.idxOf? P[r] = some r := by
    rw [List.idxOf?_eq_some_iff]
    refine ⟨hr, rfl, fun j hj e => ?_⟩
    have := (List.pairwise_iff_getElem.mp hP) j r (by omega) hr hj
    exact this (by simpa using e)
  show (match P.idxOf? P[r] with | some r => R r | none => []) = R r
  rw [this]
theorem rowP_off {p : Nat} (h : p ∉ P) : rowP P R p = [] := by
  unfold rowP
  rw [List.idxOf?_eq_none_iff.mpr h]
end RW
/-- the reference's number of a situation -/
def fR (len : Nat → Nat) (n : Nat) (a : Sit) : Nat := (fb_ct (vo n) (cdg 4 ((plc len 12).flatMap a.2)) * 56 + fb_ct (vw n) (cdg 5 (dls (rws (plc len 12) a.2) 6))) * 12 + a.1
section FR
variable {len siz : Nat → Nat} {n : Nat} {a b : Sit} {P : List Nat} {row : Nat → List Nat}
/-- the locomotives in their order -/
theorem wfF_C (hP : P ≠ []) (h : wfF n (flt row P)) : (P.flatMap row).Nodup ∧ (∀ x ∈ P.flatMap row, x < n) ∧ (∀ l, l < n → l ∈ P.flatMap row) ∧ (P.flatMap row).length = n := by
  have hl := cut_len h hP n (Nat.le_refl _)
  rw [cut_all h, flt_length] at hl
  obtain ⟨f1, f2, f3⟩ := h
  rw [flt_pos] at f1
  exact ⟨(List.pairwise_map.mp f1).imp (fun h e => h (by omega)), fun x hx => f2 (x + 1) (flt_mem.mpr hx), fun l hl => flt_mem.mp (f3 l hl), by omega⟩
theorem wfF_ofC (h1 : (P.flatMap row).Nodup) (h2 : ∀ x ∈ P.flatMap row, x < n) (h3 : ∀ l, l < n → l ∈ P.flatMap row) : wfF n (flt row P) := by
  refine ⟨?_, fun x hx => ?_, fun l hl => flt_mem.mpr (h3 l hl)⟩
  · rw [flt_pos]
    exact List.pairwise_map.mpr (h1.imp (fun h e => h (by omega)))
  · cases x with
    | zero => exact Nat.zero_le _
    | succ y => exact h2 y (flt_mem.mp hx)
theorem codes_of (hP : P ≠ []) (h6 : P.length ≤ 6) (hn : n ≤ 3) (h : wfF n (flt row P)) : cdg 4 (P.flatMap row) < 4 ^ n ∧ vo n (cdg 4 (P.flatMap row)) = true ∧ dl 4 n (cdg 4 (P.flatMap row)) = P.flatMap row ∧ cdg 5 (dls (rws P row) 6) < 15625 ∧ vw n (cdg 5 (dls (rws P row) 6)) = true ∧ dl 5 6 (cdg 5 (dls (rws P row) 6)) = dls (rws P row) 6 := by
  obtain ⟨c1, c2, c3, c4⟩ := wfF_C hP h
  have c5 : ∀ x ∈ P.flatMap row, x < 4 := fun x hx => by have := c2 x hx; omega
  have e1 := dl_cdg _ c5
  rw [c4] at e1
  have l1 := cdg_lt _ c5
  rw [c4] at l1
  have hsum : (dls (rws P row) 6).sum = n := by rw [dls_sum, pre_all h6, c4]
  have d5 : ∀ x ∈ dls (rws P row) 6, x < 5 := fun x hx => by
    obtain ⟨r, hr, e⟩ := dls_mem 6 x hx
    have hg := dls_get (R := rws P row) 6 hr
    have h1 := sum_takeS hg
    have h2 := sum_take_le (dls (rws P row) 6) (r + 1)
    omega
  have e2 := dl_cdg _ d5
  rw [dls_len] at e2
  have l2 := cdg_lt _ d5
  rw [dls_len] at l2
  refine ⟨l1, (vo_iff hn l1).mpr ?_, e1, l2, vw_iff.mpr ?_, e2⟩
  · rw [e1]; exact ⟨c1, c2, c3⟩
  · rw [e2]; exact hsum
theorem fR_lt (hs1 : ∀ l, l < n → 1 ≤ siz l) (hn : n ≤ 3) (h5 : trk len 12 ≤ 5) (hV : sV len siz n a) : fR len n a < 4032 := by
  obtain ⟨g1, g2, -, g4, g5, -⟩ := codes_of plc_ne (by rw [plc_len]; omega) hn (sV_F hs1 hV)
  have h1 := ct_lt g2 g1
  have h2 := vo_bound n (by omega)
  have h3 := ct_lt g5 g4
  have h4 := vw_bound hn
  have ha := hV.1.2.2.2.2.2.1
  unfold fR
  omega
theorem fR_inj (hs1 : ∀ l, l < n → 1 ≤ siz l) (hn : n ≤ 3) (h5 : trk len 12 ≤ 5) : ∀ a b, sV len siz n a → sV len siz n b → fR len n a = fR len n b → a = b := fun a b hVa hVb e => by
  have h6 : (plc len 12).length ≤ 6 := by rw [plc_len]; omega
  obtain ⟨a1, a2, a3, a4, a5, a6⟩ := codes_of plc_ne h6 hn (sV_F hs1 hVa)
  obtain ⟨b1, b2, b3, b4, b5, b6⟩ := codes_of plc_ne h6 hn (sV_F hs1 hVb)
  have ha := hVa.1.2.2.2.2.2.1
  have hb := hVb.1.2.2.2.2.2.1
  have h3a := ct_lt a5 a4
  have h3b := ct_lt b5 b4
  have h4 := vw_bound hn
  unfold fR at e
  have e1 : a.1 = b.1 := by omega
  have e2 : fb_ct (vw n) (cdg 5 (dls (rws (plc len 12) a.2) 6)) = fb_ct (vw n) (cdg 5 (dls (rws (plc len 12) b.2) 6)) := by omega
  have e3 : fb_ct (vo n) (cdg 4 ((plc len 12).flatMap a.2)) = fb_ct (vo n) (cdg 4 ((plc len 12).flatMap b.2)) := by omega
  have e4 := fb_ct_kth_one a5 b5 e2
  have e5 := fb_ct_kth_one a2 b2 e3
  have e6 : dls (rws (plc len 12) a.2) 6 = dls (rws (plc len 12) b.2) 6 := by rw [← a6, ← b6, e4]
  have e7 : (plc len 12).flatMap a.2 = (plc len 12).flatMap b.2 := by rw [← a3, ← b3, e5]
  refine Prod.ext e1 (funext fun q => ?_)
  by_cases hq : q ∈ plc len 12
  · obtain ⟨r, hr, er⟩ := List.getElem_of_mem hq
    have x1 := sg_pre (R := rws (plc len 12) a.2) (r := r) (N := 6) (by omega)
    have x2 := sg_pre (R := rws (plc len 12) b.2) (r := r) (N := 6) (by omega)
    rw [pre_all h6, e6, e7] at x1
    rw [pre_all h6, x1] at x2
    have hx := List.getElem?_eq_getElem hr
    unfold rws at x2
    rw [hx, er] at x2
    exact x2
  · rw [sV_off hs1 hVa q hq, sV_off hs1 hVb q hq]
end FR
