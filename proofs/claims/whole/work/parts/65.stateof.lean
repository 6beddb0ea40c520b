/-! the number of a yard's rows -/
def bcF (a : Int32) : Int32 := let x1 := (a - ((am_ush a (1 : Int32)) &&& (1431655765 : Int32))); let x2 := ((x1 &&& (858993459 : Int32)) + ((am_ush x1 (2 : Int32)) &&& (858993459 : Int32))); let x3 := ((x2 + (am_ush x2 (4 : Int32))) &&& (252645135 : Int32)); let x4 := (x3 + (am_ush x3 (8 : Int32))); let x5 := (x4 + (am_ush x4 (16 : Int32))); (x5 &&& (63 : Int32))
theorem add_m1 (x : Int32) : x + (-1 : Int32) = x - 1 := (Int32.sub_eq_add_neg x 1).symm
theorem t_bits {a : Int32} {K : Int32 → Prop} (h : K (bcF a)) : wJ6_bitCount_0f7a4 a K := by
  intro x1 e1 x2 e2 x3 e3 x4 e4 x5 e5
  subst e1 e2 e3 e4 e5
  exact h
def msk (b1 b2 b3 : Bool) : Nat := b1.toNat + 2 * b2.toNat + 4 * b3.toNat
def sml (b1 b2 : Bool) (x : Nat) : Nat := (if 0 < x then b1.toNat else 0) + (if 1 < x then b2.toNat else 0)
theorem bits_lo : ∀ b1 b2 b3 : Bool, ∀ x, x < 3 → bcF (nI (msk b1 b2 b3) &&& (((1 : Int32) <<< (nI x &&& 31)) - (1 : Int32))) = nI (sml b1 b2 x) := by decide +kernel
theorem bits_up : ∀ b1 b2 b3 : Bool, ∀ x, x < 3 → (nI (msk b1 b2 b3) ||| ((1 : Int32) <<< (nI x &&& 31))) = nI (msk (b1 || x == 0) (b2 || x == 1) (b3 || x == 2)) := by decide +kernel
/-- the locomotives before, as bits -/
def mkP (A : List Nat) : Nat := msk (decide (1 ∈ A)) (decide (2 ∈ A)) (decide (3 ∈ A))
section SO
variable {K : Int32 → Mu → Prop} {m : Mu} {P F A B : List Nat} {row : Nat → List Nat} {siz : Nat → Nat} {n ang : Nat}
theorem mkP_app {x : Nat} (hx : x < 3) : (nI (mkP A) ||| ((1 : Int32) <<< (nI x &&& 31))) = nI (mkP (A ++ [x + 1])) := by
  unfold mkP
  rw [bits_up _ _ _ x hx]
  congr 1
  have : x = 0 ∨ x = 1 ∨ x = 2 := by omega
  rcases this with rfl | rfl | rfl <;> simp
theorem mkP_sep : mkP (A ++ [0]) = mkP A := by
  unfold mkP
  simp
theorem cut_stp (h : (A.filter (fun x => decide (0 < x))).Nodup) (i : Nat) : (cut (i + 1) A).length = (cut i A).length + (decide (i + 1 ∈ A)).toNat := by
  by_cases hm : i + 1 ∈ A
  · obtain ⟨X, Y, e⟩ := List.append_of_mem hm
    have hn := h
    rw [e, List.filter_append, List.filter_cons_of_pos (by simp)] at hn
    have h1 := List.nodup_append.mp hn
    have h2 := List.nodup_cons.mp h1.2.1
    have hX : i + 1 ∉ X := fun hA => h1.2.2 (i + 1) (by simp [hA]) (i + 1) (by simp) rfl
    have hY : i + 1 ∉ Y := fun hB => h2.1 (by simp [hB])
    have c1 : cut i A = cut i X ++ cut i Y := by
      rw [e]; unfold cut
      rw [List.filter_append, List.filter_cons_of_neg (by simp)]
    have c2 : cut (i + 1) A = cut i X ++ (i + 1) :: cut i Y := by
      rw [← cut_no hX, ← cut_no hY, e]; unfold cut
      rw [List.filter_append, List.filter_cons_of_pos (by simp)]
    rw [c1, c2]
    simp [hm]; omega
  · rw [cut_no hm]; simp [hm]
/-- a slot, counted -/
theorem slo_count {x j : Nat} (hx : x < 3) (hw : wfF n F) (hF : F = A ++ (x + 1) :: B) (hxn : x < n) (hz : (cut 0 A).length = j) : slo x F = j + sml (decide (1 ∈ A)) (decide (2 ∈ A)) x := by
  obtain ⟨h1, -, -⟩ := hw
  rw [hF, List.filter_append, List.filter_cons_of_pos (by simp)] at h1
  have hA := (List.nodup_append.mp h1).1
  have hno : x + 1 ∉ A := fun z => (List.nodup_append.mp h1).2.2 (x + 1) (by simp [z]) (x + 1) (by simp) rfl
  rw [hF, slo_at hno]
  have s0 := cut_stp hA 0
  have s1 := cut_stp hA 1
  have : x = 0 ∨ x = 1 ∨ x = 2 := by omega
  rcases this with rfl | rfl | rfl
  · rw [hz]; rfl
  · rw [s0, hz]; rfl
  · rw [s1, s0, hz]; unfold sml; simp; omega
theorem flt_take {j p : Nat} (h : P[j]? = some p) : flt row (P.take (j + 1)) = flt row (P.take j) ++ (row p).map (· + 1) ++ [0] := by
  rw [take_snoc h]
  generalize P.take j = Q
  induction Q with
  | nil => simp [flt]
  | cons q qs ih =>
    show (row q).map (· + 1) ++ 0 :: flt row (qs ++ [p]) = ((row q).map (· + 1) ++ 0 :: flt row qs) ++ (row p).map (· + 1) ++ [0]
    rw [ih]; simp
theorem flt_app {Q R : List Nat} : flt row (Q ++ R) = flt row Q ++ flt row R := by
  induction Q with
  | nil => rfl
  | cons q qs ih =>
    show (row q).map (· + 1) ++ 0 :: flt row (qs ++ R) = ((row q).map (· + 1) ++ 0 :: flt row qs) ++ flt row R
    rw [ih]; simp
theorem cut0_map {X : List Nat} : cut 0 (X.map (· + 1)) = [] := List.filter_eq_nil_iff.mpr (fun x hx => by
  obtain ⟨y, -, rfl⟩ := List.mem_map.mp hx
  simp)
theorem cut_app {i : Nat} {X Y : List Nat} : cut i (X ++ Y) = cut i X ++ cut i Y := List.filter_append ..
/-- the slots known so far -/
def slM (F A : List Nat) (m : Mu) : Prop := ∀ x, x + 1 ∈ A → x < 3 → m 2 x = nI (slo x F)
def oS (m m' : Mu) : Prop := ∀ a, a ≠ 2 → m' a = m a
theorem oS.rf {m : Mu} : oS m m := fun _ _ => rfl
theorem oS.tr {m m' m'' : Mu} (h : oS m m') (h2 : oS m' m'') : oS m m'' := fun a ha => (h2 a ha).trans (h a ha)
theorem oS.up {m : Mu} {i : Nat} {x : Int32} : oS m (mu_up m 2 i x) := fun _ h => pu_upn _ _ _ h
theorem oS.sub {m m' : Mu} {b : Nat} (h : oS m m') (hb : 2 < b) : mu_sub m' b = mu_sub m b := funext fun a => h (b + a) (by omega)
theorem oS.pl {m m' : Mu} (h : plM P m) (e : oS m m') : plM P m' := h.keep (e 1 (by decide)) (congrFun (e 13 (by decide)) 8)
theorem t1_so_v_122 (hm : plM P m) (hPe : P ≠ []) (h6 : P.length ≤ 6) (hn3 : n ≤ 3) (hw : wfF n F) (hs : slM F F m) (ha : m 28 7 = nI ang) (hK : K (nI (dig F P.length 0 n * 12 + ang)) m) : ∀ i, i ≤ n → lpX1_stateOf_v_122 K (i + 1) (nI (dig F P.length i (n - i))) (nI i - 1) m := by
  intro i
  induction i with
  | zero =>
    intro _
    unfold lpX1_stateOf_v_122
    refine ⟨fun _ => ?_, fun z => absurd (by decide) z⟩
    rw [ha, show (12 : Int32) = nI 12 from rfl, pk_mul, nI_add]
    exact hK
  | succ i ih =>
    intro hi
    unfold lpX1_stateOf_v_122
    rw [nI_m1 (by omega), Nat.add_sub_cancel]
    refine pk_lt i 0 (fun z => absurd z (by omega)) (fun _ => t1_ways hm hPe h6 (by omega) ⟨pk_in i 3 (by omega), fun x6 e6 x7 e7 => ?_⟩)
    rw [nI_clamp (by omega), hs i (hw.2.2 i (by omega)) (by omega), pk_mul, nI_add] at e6
    have ed : dig F P.length i (n - i) = dig F P.length (i + 1) (n - (i + 1)) * (P.length + i) + slo i F := by
      rw [show n - i = (n - (i + 1)) + 1 by omega]; rfl
    rw [e6, e7, ← ed, add_m1]
    exact ih (by omega)
theorem t1_so_v_33 (hm : plM P m) (h6 : P.length ≤ 6) (hP : ∀ p ∈ P, p < 13) (hB : yB siz row (mu_sub m 20)) (hn3 : n ≤ 3) (hw : wfF n (flt row P)) {X0 : Int32 → Int32 → Mu → Prop} {j p : Nat} (hp : P[j]? = some p) (hX : ∀ m', oS m m' → slM (flt row P) (flt row (P.take (j + 1))) m' → X0 (nI (mkP (flt row (P.take (j + 1))))) (nI (j + 1)) m') : ∀ d k m1, k + d = (row p).length → oS m m1 → slM (flt row P) (flt row (P.take j) ++ ((row p).take k).map (· + 1)) m1 → lpX1_stateOf_v_33 K X0 (d + 1) (nI (mkP (flt row (P.take j) ++ ((row p).take k).map (· + 1)))) (nI j) (nI (row p).length) (nI k) m1 := by
  have hj := (List.getElem?_eq_some_iff.mp hp).1
  have hpP : p ∈ P := List.mem_of_getElem? hp
  have hp13 := hP p hpP
  intro d
  induction d with
  | zero =>
    intro k m1 hk hS hs
    have e : k = (row p).length := by omega
    subst e
    unfold lpX1_stateOf_v_33
    refine ⟨fun _ x15 e15 => ?_, fun z => absurd (Int32.le_refl _) z⟩
    have ef := flt_take (row := row) hp
    rw [List.take_length] at hs ⊢
    rw [e15, nI_1, ← mkP_sep, ← ef]
    refine hX m1 hS (fun x hx hx3 => hs x ?_ hx3)
    rw [ef] at hx
    simpa using hx
  | succ d ih =>
    intro k m1 hk hS hs
    have hc8 := (hB p hp13).2.2.1
    have hx := List.getElem?_eq_getElem (show k < (row p).length by omega)
    obtain ⟨g1, g2, g3⟩ := (hB p hp13).2.2.2 k _ hx
    unfold lpX1_stateOf_v_33
    refine pk_le (row p).length k (fun z => absurd z (by omega)) (fun _ => ⟨pk_in j 6 (by omega), ?_⟩)
    rw [nI_clamp (by omega), (hS.pl hm).2 j p hp, hS.sub (by decide)]
    refine t_locAt hp13 (hB p hp13).1 hc8 (by omega) ?_
    have hxF : (row p)[k] + 1 ∈ flt row P := flt_mem.mpr (List.mem_flatMap.mpr ⟨p, hpP, List.getElem_mem _⟩)
    have hxn := hw.2.1 _ hxF
    rw [g1]
    have hsplit : flt row P = (flt row (P.take j) ++ ((row p).take k).map (· + 1)) ++ ((row p)[k] + 1) :: (((row p).drop (k + 1)).map (· + 1) ++ 0 :: flt row (P.drop (j + 1))) := by
      have e1 : flt row P = flt row (P.take j) ++ flt row (P.drop j) := by rw [← flt_app, List.take_append_drop]
      rw [e1, drop_cons' hp]
      show flt row (P.take j) ++ ((row p).map (· + 1) ++ 0 :: flt row (P.drop (j + 1))) = _
      have e2 : (row p).map (· + 1) = ((row p).take k).map (· + 1) ++ ((row p)[k] + 1) :: ((row p).drop (k + 1)).map (· + 1) := by
        have := congrArg (List.map (· + 1)) (split_at hx)
        rw [List.map_append, List.map_cons] at this
        exact this.symm
      rw [e2]; simp
    have hz : (cut 0 (flt row (P.take j) ++ ((row p).take k).map (· + 1))).length = j := by
      rw [cut_app, cut0_map, cut_zero]
      simp; omega
    have hslo := slo_count (x := (row p)[k]) (by omega) hw hsplit (by omega) hz
    refine pk_lt (row p)[k] 0 (fun z => absurd z (by omega)) (fun _ => pk_le 3 (row p)[k] (fun z => absurd z (by omega)) (fun _ x21 e21 => ?_))
    rw [e21]
    refine t_bits ⟨pk_in (row p)[k] 3 (by omega), fun m23 e23 x24 e24 x25 e25 => ?_⟩
    rw [show mkP (flt row (P.take j) ++ ((row p).take k).map (· + 1)) = msk (decide (1 ∈ flt row (P.take j) ++ ((row p).take k).map (· + 1))) (decide (2 ∈ flt row (P.take j) ++ ((row p).take k).map (· + 1))) (decide (3 ∈ flt row (P.take j) ++ ((row p).take k).map (· + 1))) from rfl, bits_lo _ _ _ _ (by omega), nI_add, ← hslo, nI_clamp (by omega)] at e23
    rw [mkP_app (by omega)] at e24
    have et : flt row (P.take j) ++ ((row p).take k).map (· + 1) ++ [(row p)[k] + 1] = flt row (P.take j) ++ ((row p).take (k + 1)).map (· + 1) := by
      rw [take_snoc hx, List.map_append, ← List.append_assoc]; rfl
    rw [et] at e24
    rw [e24, e25, nI_1]
    refine ih (k + 1) m23 (by omega) (hS.tr (by rw [e23]; exact oS.up)) (fun x hx hx3 => ?_)
    rw [e23, pu_up]
    by_cases ex : x = (row p)[k]
    · rw [ex, pu_u]
    · rw [pu_un _ _ ex]
      rw [← et] at hx
      refine hs x ?_ hx3
      rcases List.mem_append.mp hx with z | z
      · exact z
      · simp at z; exact absurd z ex
theorem t1_so_v_4 (hm : plM P m) (hPe : P ≠ []) (h6 : P.length ≤ 6) (hP : ∀ p ∈ P, p < 13) (hB : yB siz row (mu_sub m 20)) (hn : m 28 5 = nI n) (hn3 : n ≤ 3) (hw : wfF n (flt row P)) (ha : m 28 7 = nI ang) (hK : ∀ m', oS m m' → K (nI (dig (flt row P) P.length 0 n * 12 + ang)) m') : ∀ d j m1, j + d = P.length → oS m m1 → slM (flt row P) (flt row (P.take j)) m1 → lpX1_stateOf_v_4 K (d + 1) (nI (mkP (flt row (P.take j)))) (nI j) m1 := by
  intro d
  induction d with
  | zero =>
    intro j m1 hj hS hs
    have e : j = P.length := by omega
    subst e
    unfold lpX1_stateOf_v_4
    refine pk_le P.length P.length (fun _ => ?_) (fun z => absurd z (by omega)) (hx := (hS.pl hm).1)
    rw [hS 28 (by decide), hn]
    rw [List.take_length] at hs
    have key : ∀ x : Int32, x = nI n - 1 → ∃ n8 : Nat, lpX1_stateOf_v_122 K n8 0 x m1 := fun x ex => by
      rw [ex]
      refine ⟨n + 1, ?_⟩
      have := t1_so_v_122 (K := K) (hS.pl hm) hPe h6 hn3 hw hs (by rw [hS 28 (by decide)]; exact ha) (hK m1 hS) n (Nat.le_refl _)
      rw [Nat.sub_self] at this
      exact this
    exact pk_lt 3 n (fun z => absurd z (by omega)) (fun _ x ex => key x ex)
  | succ d ih =>
    intro j m1 hj hS hs
    have hx := List.getElem?_eq_getElem (show j < P.length by omega)
    have hp13 := hP _ (List.getElem_mem (show j < P.length by omega))
    unfold lpX1_stateOf_v_4
    refine pk_le P.length j (fun z => absurd z (by omega)) (fun _ => pk_le 6 j (fun z => absurd z (by omega)) (fun _ => ⟨pk_in j 6 (by omega), ?_⟩)) (hx := (hS.pl hm).1)
    rw [nI_clamp (by omega), (hS.pl hm).2 j _ hx, hS.sub (by decide)]
    refine t_countAt hp13 ?_
    rw [(hB _ hp13).1]
    refine ⟨(row P[j]).length + 1, ?_⟩
    have hB1 : yB siz row (mu_sub m1 20) := by rw [hS.sub (by decide)]; exact hB
    have := t1_so_v_33 (K := K) (hS.pl hm) h6 hP hB1 hn3 hw (X0 := fun a0 a1 mm => lpX1_stateOf_v_4 K (d + 1) a0 a1 mm) hx (fun m' hS' hs' => ih (j + 1) m' (by omega) (hS.tr hS') hs') (row P[j]).length 0 m1 (by omega) oS.rf (by simpa using hs)
    simpa [nI_0] using this
theorem t1_stateOf_v (hm : plM P m) (hPe : P ≠ []) (h6 : P.length ≤ 6) (hP : ∀ p ∈ P, p < 13) (hB : yB siz row (mu_sub m 20)) (hn : m 28 5 = nI n) (hn3 : n ≤ 3) (hw : wfF n (flt row P)) (ha : m 28 7 = nI ang) (hK : ∀ m', oS m m' → K (nI (dig (flt row P) P.length 0 n * 12 + ang)) m') : wX1_stateOf_v m K := by
  refine ⟨P.length + 1, ?_⟩
  have := t1_so_v_4 hm hPe h6 hP hB hn hn3 hw ha hK P.length 0 m (by omega) oS.rf (fun x hx => by simp [flt] at hx)
  simpa [flt, mkP, msk, nI_0] using this
theorem t1_so_y_122 (hm : plM P m) (hPe : P ≠ []) (h6 : P.length ≤ 6) (hn3 : n ≤ 3) (hw : wfF n F) (hs : slM F F m) (ha : m 58 7 = nI ang) (hK : K (nI (dig F P.length 0 n * 12 + ang)) m) : ∀ i, i ≤ n → lpX1_stateOf_y_122 K (i + 1) (nI (dig F P.length i (n - i))) (nI i - 1) m := by
  intro i
  induction i with
  | zero =>
    intro _
    unfold lpX1_stateOf_y_122
    refine ⟨fun _ => ?_, fun z => absurd (by decide) z⟩
    rw [ha, show (12 : Int32) = nI 12 from rfl, pk_mul, nI_add]
    exact hK
  | succ i ih =>
    intro hi
    unfold lpX1_stateOf_y_122
    rw [nI_m1 (by omega), Nat.add_sub_cancel]
    refine pk_lt i 0 (fun z => absurd z (by omega)) (fun _ => t1_ways hm hPe h6 (by omega) ⟨pk_in i 3 (by omega), fun x6 e6 x7 e7 => ?_⟩)
    rw [nI_clamp (by omega), hs i (hw.2.2 i (by omega)) (by omega), pk_mul, nI_add] at e6
    have ed : dig F P.length i (n - i) = dig F P.length (i + 1) (n - (i + 1)) * (P.length + i) + slo i F := by
      rw [show n - i = (n - (i + 1)) + 1 by omega]; rfl
    rw [e6, e7, ← ed, add_m1]
    exact ih (by omega)
theorem t1_so_y_33 (hm : plM P m) (h6 : P.length ≤ 6) (hP : ∀ p ∈ P, p < 13) (hB : yB siz row (mu_sub m 50)) (hn3 : n ≤ 3) (hw : wfF n (flt row P)) {X0 : Int32 → Int32 → Mu → Prop} {j p : Nat} (hp : P[j]? = some p) (hX : ∀ m', oS m m' → slM (flt row P) (flt row (P.take (j + 1))) m' → X0 (nI (mkP (flt row (P.take (j + 1))))) (nI (j + 1)) m') : ∀ d k m1, k + d = (row p).length → oS m m1 → slM (flt row P) (flt row (P.take j) ++ ((row p).take k).map (· + 1)) m1 → lpX1_stateOf_y_33 K X0 (d + 1) (nI (mkP (flt row (P.take j) ++ ((row p).take k).map (· + 1)))) (nI j) (nI (row p).length) (nI k) m1 := by
  have hj := (List.getElem?_eq_some_iff.mp hp).1
  have hpP : p ∈ P := List.mem_of_getElem? hp
  have hp13 := hP p hpP
  intro d
  induction d with
  | zero =>
    intro k m1 hk hS hs
    have e : k = (row p).length := by omega
    subst e
    unfold lpX1_stateOf_y_33
    refine ⟨fun _ x15 e15 => ?_, fun z => absurd (Int32.le_refl _) z⟩
    have ef := flt_take (row := row) hp
    rw [List.take_length] at hs ⊢
    rw [e15, nI_1, ← mkP_sep, ← ef]
    refine hX m1 hS (fun x hx hx3 => hs x ?_ hx3)
    rw [ef] at hx
    simpa using hx
  | succ d ih =>
    intro k m1 hk hS hs
    have hc8 := (hB p hp13).2.2.1
    have hx := List.getElem?_eq_getElem (show k < (row p).length by omega)
    obtain ⟨g1, g2, g3⟩ := (hB p hp13).2.2.2 k _ hx
    unfold lpX1_stateOf_y_33
    refine pk_le (row p).length k (fun z => absurd z (by omega)) (fun _ => ⟨pk_in j 6 (by omega), ?_⟩)
    rw [nI_clamp (by omega), (hS.pl hm).2 j p hp, hS.sub (by decide)]
    refine t_locAt hp13 (hB p hp13).1 hc8 (by omega) ?_
    have hxF : (row p)[k] + 1 ∈ flt row P := flt_mem.mpr (List.mem_flatMap.mpr ⟨p, hpP, List.getElem_mem _⟩)
    have hxn := hw.2.1 _ hxF
    rw [g1]
    have hsplit : flt row P = (flt row (P.take j) ++ ((row p).take k).map (· + 1)) ++ ((row p)[k] + 1) :: (((row p).drop (k + 1)).map (· + 1) ++ 0 :: flt row (P.drop (j + 1))) := by
      have e1 : flt row P = flt row (P.take j) ++ flt row (P.drop j) := by rw [← flt_app, List.take_append_drop]
      rw [e1, drop_cons' hp]
      show flt row (P.take j) ++ ((row p).map (· + 1) ++ 0 :: flt row (P.drop (j + 1))) = _
      have e2 : (row p).map (· + 1) = ((row p).take k).map (· + 1) ++ ((row p)[k] + 1) :: ((row p).drop (k + 1)).map (· + 1) := by
        have := congrArg (List.map (· + 1)) (split_at hx)
        rw [List.map_append, List.map_cons] at this
        exact this.symm
      rw [e2]; simp
    have hz : (cut 0 (flt row (P.take j) ++ ((row p).take k).map (· + 1))).length = j := by
      rw [cut_app, cut0_map, cut_zero]
      simp; omega
    have hslo := slo_count (x := (row p)[k]) (by omega) hw hsplit (by omega) hz
    refine pk_lt (row p)[k] 0 (fun z => absurd z (by omega)) (fun _ => pk_le 3 (row p)[k] (fun z => absurd z (by omega)) (fun _ x21 e21 => ?_))
    rw [e21]
    refine t_bits ⟨pk_in (row p)[k] 3 (by omega), fun m23 e23 x24 e24 x25 e25 => ?_⟩
    rw [show mkP (flt row (P.take j) ++ ((row p).take k).map (· + 1)) = msk (decide (1 ∈ flt row (P.take j) ++ ((row p).take k).map (· + 1))) (decide (2 ∈ flt row (P.take j) ++ ((row p).take k).map (· + 1))) (decide (3 ∈ flt row (P.take j) ++ ((row p).take k).map (· + 1))) from rfl, bits_lo _ _ _ _ (by omega), nI_add, ← hslo, nI_clamp (by omega)] at e23
    rw [mkP_app (by omega)] at e24
    have et : flt row (P.take j) ++ ((row p).take k).map (· + 1) ++ [(row p)[k] + 1] = flt row (P.take j) ++ ((row p).take (k + 1)).map (· + 1) := by
      rw [take_snoc hx, List.map_append, ← List.append_assoc]; rfl
    rw [et] at e24
    rw [e24, e25, nI_1]
    refine ih (k + 1) m23 (by omega) (hS.tr (by rw [e23]; exact oS.up)) (fun x hx hx3 => ?_)
    rw [e23, pu_up]
    by_cases ex : x = (row p)[k]
    · rw [ex, pu_u]
    · rw [pu_un _ _ ex]
      rw [← et] at hx
      refine hs x ?_ hx3
      rcases List.mem_append.mp hx with z | z
      · exact z
      · simp at z; exact absurd z ex
theorem t1_so_y_4 (hm : plM P m) (hPe : P ≠ []) (h6 : P.length ≤ 6) (hP : ∀ p ∈ P, p < 13) (hB : yB siz row (mu_sub m 50)) (hn : m 58 5 = nI n) (hn3 : n ≤ 3) (hw : wfF n (flt row P)) (ha : m 58 7 = nI ang) (hK : ∀ m', oS m m' → K (nI (dig (flt row P) P.length 0 n * 12 + ang)) m') : ∀ d j m1, j + d = P.length → oS m m1 → slM (flt row P) (flt row (P.take j)) m1 → lpX1_stateOf_y_4 K (d + 1) (nI (mkP (flt row (P.take j)))) (nI j) m1 := by
  intro d
  induction d with
  | zero =>
    intro j m1 hj hS hs
    have e : j = P.length := by omega
    subst e
    unfold lpX1_stateOf_y_4
    refine pk_le P.length P.length (fun _ => ?_) (fun z => absurd z (by omega)) (hx := (hS.pl hm).1)
    rw [hS 58 (by decide), hn]
    rw [List.take_length] at hs
    have key : ∀ x : Int32, x = nI n - 1 → ∃ n8 : Nat, lpX1_stateOf_y_122 K n8 0 x m1 := fun x ex => by
      rw [ex]
      refine ⟨n + 1, ?_⟩
      have := t1_so_y_122 (K := K) (hS.pl hm) hPe h6 hn3 hw hs (by rw [hS 58 (by decide)]; exact ha) (hK m1 hS) n (Nat.le_refl _)
      rw [Nat.sub_self] at this
      exact this
    exact pk_lt 3 n (fun z => absurd z (by omega)) (fun _ x ex => key x ex)
  | succ d ih =>
    intro j m1 hj hS hs
    have hx := List.getElem?_eq_getElem (show j < P.length by omega)
    have hp13 := hP _ (List.getElem_mem (show j < P.length by omega))
    unfold lpX1_stateOf_y_4
    refine pk_le P.length j (fun z => absurd z (by omega)) (fun _ => pk_le 6 j (fun z => absurd z (by omega)) (fun _ => ⟨pk_in j 6 (by omega), ?_⟩)) (hx := (hS.pl hm).1)
    rw [nI_clamp (by omega), (hS.pl hm).2 j _ hx, hS.sub (by decide)]
    refine t_countAt hp13 ?_
    rw [(hB _ hp13).1]
    refine ⟨(row P[j]).length + 1, ?_⟩
    have hB1 : yB siz row (mu_sub m1 50) := by rw [hS.sub (by decide)]; exact hB
    have := t1_so_y_33 (K := K) (hS.pl hm) h6 hP hB1 hn3 hw (X0 := fun a0 a1 mm => lpX1_stateOf_y_4 K (d + 1) a0 a1 mm) hx (fun m' hS' hs' => ih (j + 1) m' (by omega) (hS.tr hS') hs') (row P[j]).length 0 m1 (by omega) oS.rf (by simpa using hs)
    simpa [nI_0] using this
theorem t1_stateOf_y (hm : plM P m) (hPe : P ≠ []) (h6 : P.length ≤ 6) (hP : ∀ p ∈ P, p < 13) (hB : yB siz row (mu_sub m 50)) (hn : m 58 5 = nI n) (hn3 : n ≤ 3) (hw : wfF n (flt row P)) (ha : m 58 7 = nI ang) (hK : ∀ m', oS m m' → K (nI (dig (flt row P) P.length 0 n * 12 + ang)) m') : wX1_stateOf_y m K := by
  refine ⟨P.length + 1, ?_⟩
  have := t1_so_y_4 hm hPe h6 hP hB hn hn3 hw ha hK P.length 0 m (by omega) oS.rf (fun x hx => by simp [flt] at hx)
  simpa [flt, mkP, msk, nI_0] using this
end SO
