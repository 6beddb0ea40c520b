/-! the class's numbers -/
def ndp : List Nat → Bool
  | [] => true
  | x :: xs => !(xs.contains x) && ndp xs
theorem ndp_ok : ∀ xs, ndp xs = true → xs.Nodup
  | [], _ => List.nodup_nil
  | x :: xs, h => by
    simp [ndp] at h
    exact List.nodup_cons.mpr ⟨h.1, ndp_ok xs h.2⟩
section NB
variable {row a : Nat → List Nat} {P F : List Nat} {i s n : Nat}
theorem cut_all (h : wfF n F) : cut n F = F := List.filter_eq_self.mpr (fun x hx => by simpa using h.2.1 x hx)
theorem cut_zero : cut 0 (flt row P) = List.replicate P.length 0 := by
  induction P with
  | nil => rfl
  | cons p ps ih =>
    show cut 0 ((row p).map (· + 1) ++ 0 :: flt row ps) = _
    unfold cut at ih ⊢
    rw [List.filter_append, List.filter_cons_of_pos (by simp), ih]
    rw [List.filter_eq_nil_iff.mpr (fun x hx => by
      obtain ⟨y, -, rfl⟩ := List.mem_map.mp hx
      simp)]
    rfl
theorem cut_len (hw : wfF n (flt row P)) (hP : P ≠ []) : ∀ i, i ≤ n → (cut i (flt row P)).length = P.length + i
  | 0, _ => by rw [cut_zero]; simp
  | i + 1, h => by rw [(cut_next hw (by omega) (flt_last hP)).2.2, cut_len hw hP i (by omega)]; omega
theorem slo_lt (hw : wfF n (flt row P)) (hP : P ≠ []) (hi : i < n) : slo i (flt row P) < P.length + i := by
  have := (cut_next hw hi (flt_last hP)).2.1
  rw [cut_len hw hP i (by omega)] at this
  exact this
theorem dm {d q r : Nat} (h : r < q) : (d * q + r) % q = r ∧ (d * q + r) / q = d := by
  rw [Nat.add_comm]
  refine ⟨by rw [Nat.add_mul_mod_self_right, Nat.mod_eq_of_lt h], ?_⟩
  rw [Nat.add_mul_div_right _ _ (by omega), Nat.div_eq_of_lt h, Nat.zero_add]
theorem shR_dig (hPn : P.Nodup) (hP : P ≠ []) (hw : wfF n (flt a P)) : ∀ k i row, i + k = n → flt row P = cut i (flt a P) → flt (shR P k i (dig (flt a P) P.length i k) row) P = flt a P := by
  intro k
  induction k with
  | zero =>
    intro i row hi h
    have : i = n := by omega
    subst this
    show flt row P = _
    rw [h, cut_all hw]
  | succ k ih =>
    intro i row hi h
    have hs := slo_lt hw hP (show i < n by omega)
    obtain ⟨d1, d2⟩ := dm (d := dig (flt a P) P.length (i + 1) k) hs
    show flt (shR P k (i + 1) ((dig (flt a P) P.length (i + 1) k * (P.length + i) + slo i (flt a P)) / (P.length + i)) (pil row i P ((dig (flt a P) P.length (i + 1) k * (P.length + i) + slo i (flt a P)) % (P.length + i)))) P = _
    rw [d1, d2]
    refine ih (i + 1) _ (by omega) ?_
    rw [flt_pil hPn (by rw [h, cut_len hw hP i (by omega)]; exact hs), h]
    exact (cut_next hw (by omega) (flt_last hP)).1.symm
theorem shR_off {q : Nat} (hq : q ∉ P) : ∀ k i s row, shR P k i s row q = row q
  | 0, _, _, _ => rfl
  | k + 1, i, s, row => by
    show shR P k (i + 1) _ (pil row i P _) q = _
    rw [shR_off hq k, pil_off hq]
/-- showing the number of a situation gives it back -/
theorem show_of (hPn : P.Nodup) (hP : P ≠ []) (hw : wfF n (flt a P)) (hoff : ∀ q, q ∉ P → a q = []) : shR P n 0 (dig (flt a P) P.length 0 n) (fun _ => []) = a := by
  have h := shR_dig hPn hP hw n 0 (fun _ => []) (by omega) (by rw [cut_zero, ← cut_zero (row := fun _ => []) (P := P)]; exact (List.filter_eq_self.mpr (fun x hx => by
    cases x with
    | zero => simp
    | succ y => have := flt_mem.mp hx; simp at this)).symm)
  funext q
  by_cases hq : q ∈ P
  · exact flt_inj h q hq
  · rw [shR_off hq, hoff q hq]
theorem flt_shR (hPn : P.Nodup) (hP : P ≠ []) : ∀ k i s row, (flt row P).length = P.length + i → flt (shR P k i s row) P = shF P.length k i s (flt row P)
  | 0, _, _, _, _ => rfl
  | k + 1, i, s, row, h => by
    have hpos : 0 < P.length := List.length_pos_iff.mpr hP
    have hs : s % (P.length + i) < (flt row P).length := by rw [h]; exact Nat.mod_lt _ (by omega)
    show flt (shR P k (i + 1) _ (pil row i P _)) P = shF P.length k (i + 1) _ (insAt (flt row P) _ (i + 1))
    rw [flt_shR hPn hP k (i + 1) _ _ (by rw [flt_pil hPn hs, ins_len _ _ (by omega), h]; omega), flt_pil hPn hs]
def okN (m n j : Nat) : Bool := let F := shF m n 0 j (List.replicate m 0); decide (dig F m 0 n = j) && ndp (F.filter (fun x => decide (0 < x))) && F.all (fun x => decide (x ≤ n)) && (List.range n).all (fun l => F.contains (l + 1))
theorem shF_all : (List.range 7).all (fun m => (List.range 4).all (fun n => (List.range (cnt m n)).all (fun j => okN m n j))) = true := by decide +kernel
theorem flt_nil : flt (fun _ => []) P = List.replicate P.length 0 := by
  induction P with
  | nil => rfl
  | cons p ps ih => show 0 :: flt (fun _ => []) ps = _; rw [ih]; rfl
/-- every number shows a situation, whose number it is -/
theorem show_all (hPn : P.Nodup) (hP : P ≠ []) (h6 : P.length ≤ 6) (hn : n ≤ 3) (hs : s < cnt P.length n) : wfF n (flt (shR P n 0 s (fun _ => [])) P) ∧ dig (flt (shR P n 0 s (fun _ => [])) P) P.length 0 n = s := by
  rw [flt_shR hPn hP n 0 s _ (by rw [flt_nil]; simp), flt_nil]
  have := shF_all
  rw [List.all_eq_true] at this
  have := this P.length (by simp; omega)
  rw [List.all_eq_true] at this
  have := this n (by simp; omega)
  rw [List.all_eq_true] at this
  have := this s (by simpa using hs)
  simp [okN] at this
  obtain ⟨⟨⟨g1, g2⟩, g3⟩, g4⟩ := this
  exact ⟨⟨ndp_ok _ g2, g3, g4⟩, g1⟩
def prd (m : Nat) : Nat → Nat → Nat
  | _, 0 => 1
  | i, k + 1 => prd m (i + 1) k * (m + i)
theorem dig_lt (hw : wfF n (flt row P)) (hP : P ≠ []) : ∀ k i, i + k = n → dig (flt row P) P.length i k < prd P.length i k
  | 0, _, _ => Nat.zero_lt_one
  | k + 1, i, h => by
    have ih := dig_lt hw hP k (i + 1) (by omega)
    have hs := slo_lt hw hP (show i < n by omega)
    show dig (flt row P) P.length (i + 1) k * (P.length + i) + slo i (flt row P) < prd P.length (i + 1) k * (P.length + i)
    have : (dig (flt row P) P.length (i + 1) k + 1) * (P.length + i) ≤ prd P.length (i + 1) k * (P.length + i) := Nat.mul_le_mul_right _ ih
    rw [Nat.add_mul] at this
    omega
theorem prd_cnt : ∀ m, m < 7 → ∀ n, n < 4 → prd m 0 n = cnt m n ∧ 12 * cnt m n ≤ 4032 := by decide +kernel
theorem wfF_of {len siz : Nat → Nat} {ang : Nat} (hw : wf len siz n ang row) (hP : ∀ p ∈ P, p < 13) (hPn : P.Nodup) (hoff : ∀ p, p < 13 → p ∉ P → row p = []) : wfF n (flt row P) := by
  obtain ⟨w1, w2, w3, w4, -⟩ := hw
  refine ⟨?_, fun x hx => ?_, fun l hl => ?_⟩
  · rw [flt_pos]
    have : (P.flatMap row).Nodup := List.pairwise_flatMap.mpr ⟨fun p hp => w2 p (hP p hp), List.Pairwise.imp_of_mem (fun {p q} hp hq hne x hx y hy e => hne (w3 p q x (hP p hp) (hP q hq) hx (e ▸ hy))) hPn⟩
    exact List.pairwise_map.mpr (List.Pairwise.imp (fun h e => h (by omega)) this)
  · cases x with
    | zero => exact Nat.zero_le _
    | succ y =>
      obtain ⟨p, hp, hy⟩ := List.mem_flatMap.mp (flt_mem.mp hx)
      exact w1 p (hP p hp) y hy
  · obtain ⟨p, hp, hl⟩ := w4 l hl
    refine flt_mem.mpr (List.mem_flatMap.mpr ⟨p, ?_, hl⟩)
    by_cases h : p ∈ P
    · exact h
    · rw [hoff p hp h] at hl; simp at hl
theorem wf_ofF {len siz : Nat → Nat} {ang : Nat} (h : wfF n (flt row P)) (hP : ∀ p ∈ P, p < 13) (hoff : ∀ p, p ∉ P → row p = []) (hfit : ∀ p, p < 13 → sm siz (row p) ≤ len p) (ha : ang < 12) (hn : n ≤ 8) (h12 : 0 < len 12) : wf len siz n ang row := by
  obtain ⟨f1, f2, f3⟩ := h
  rw [flt_pos] at f1
  have f4 : (P.flatMap row).Nodup := (List.pairwise_map.mp f1).imp (fun h e => h (by omega))
  obtain ⟨g1, g2⟩ := List.pairwise_flatMap.mp f4
  have inP : ∀ p l, l ∈ row p → p ∈ P := fun p l hl => by
    by_cases h : p ∈ P
    · exact h
    · rw [hoff p h] at hl; simp at hl
  refine ⟨fun p _ l hl => ?_, fun p _ => ?_, fun p q l _ _ h1 h2 => ?_, fun l hl => ?_, hfit, ha, hn, h12⟩
  · exact f2 (l + 1) (flt_mem.mpr (List.mem_flatMap.mpr ⟨p, inP p l hl, hl⟩))
  · by_cases h : p ∈ P
    · exact g1 p h
    · rw [hoff p h]; exact List.nodup_nil
  · obtain ⟨i, hi, ei⟩ := List.getElem_of_mem (inP p l h1)
    obtain ⟨j, hj, ej⟩ := List.getElem_of_mem (inP q l h2)
    have gg := List.pairwise_iff_getElem.mp g2
    rcases Nat.lt_trichotomy i j with z | z | z
    · exact absurd rfl (gg i j hi hj z l (by rw [ei]; exact h1) l (by rw [ej]; exact h2))
    · subst z; rw [← ei, ← ej]
    · exact absurd rfl (gg j i hj hi z l (by rw [ej]; exact h2) l (by rw [ei]; exact h1))
  · obtain ⟨p, hp, hlp⟩ := List.mem_flatMap.mp (flt_mem.mp (f3 l hl))
    exact ⟨p, hP p hp, hlp⟩
end NB
section PC
variable {len siz : Nat → Nat} {n ang : Nat} {row : Nat → List Nat}
theorem plc_mem {p : Nat} : p ∈ plc len 12 ↔ p = 12 ∨ (p < 12 ∧ 0 < len p) := by
  unfold plc
  simp
theorem plc_nodup : (plc len 12).Nodup := by
  unfold plc
  refine List.nodup_cons.mpr ⟨by simp, List.Nodup.sublist List.filter_sublist List.nodup_range⟩
theorem plc_ne : plc len 12 ≠ [] := by unfold plc; simp
theorem plc_13 : ∀ p ∈ plc len 12, p < 13 := fun p hp => by rcases plc_mem.mp hp with h | h <;> omega
/-- off the places no one stands -/
theorem sV_off {a : Sit} (hs : ∀ l, l < n → 1 ≤ siz l) (h : sV len siz n a) : ∀ q, q ∉ plc len 12 → a.2 q = [] := fun q hq => by
  by_cases h13 : 13 ≤ q
  · exact h.2 q h13
  · have h0 : ¬ (q = 12 ∨ (q < 12 ∧ 0 < len q)) := fun z => hq (plc_mem.mpr z)
    have hf := h.1.2.2.2.2.1 q (by omega)
    rcases hx : a.2 q with _ | ⟨l, ls⟩
    · rfl
    · have hl : l < n := h.1.1 q (by omega) l (by rw [hx]; simp)
      have := hs l hl
      rw [hx] at hf
      have : siz l + sm siz ls ≤ len q := hf
      omega
def fC (len : Nat → Nat) (n : Nat) (a : Sit) : Nat := dig (flt a.2 (plc len 12)) (plc len 12).length 0 n * 12 + a.1
theorem sV_F {a : Sit} (hs : ∀ l, l < n → 1 ≤ siz l) (h : sV len siz n a) : wfF n (flt a.2 (plc len 12)) := wfF_of h.1 plc_13 plc_nodup (fun p _ hp => sV_off hs h p hp)
theorem fC_inj (hs : ∀ l, l < n → 1 ≤ siz l) : ∀ a b, sV len siz n a → sV len siz n b → fC len n a = fC len n b → a = b := fun a b ha hb e => by
  have h1 := ha.1.2.2.2.2.2.1
  have h2 := hb.1.2.2.2.2.2.1
  unfold fC at e
  have e1 : a.1 = b.1 := by omega
  have e2 : dig (flt a.2 (plc len 12)) (plc len 12).length 0 n = dig (flt b.2 (plc len 12)) (plc len 12).length 0 n := by omega
  have s1 := show_of plc_nodup plc_ne (sV_F hs ha) (sV_off hs ha)
  have s2 := show_of plc_nodup plc_ne (sV_F hs hb) (sV_off hs hb)
  rw [e2] at s1
  exact Prod.ext e1 (s1.symm.trans s2)
theorem fC_lt (hs : ∀ l, l < n → 1 ≤ siz l) (hn : n ≤ 3) (h5 : trk len 12 ≤ 5) {a : Sit} (h : sV len siz n a) : fC len n a < 12 * cnt (plc len 12).length n ∧ 12 * cnt (plc len 12).length n ≤ 4032 := by
  have hp := prd_cnt (plc len 12).length (by rw [plc_len]; omega) n (by omega)
  have hd := dig_lt (sV_F hs h) plc_ne n 0 (by omega)
  have h1 := h.1.2.2.2.2.2.1
  unfold fC
  omega
end PC
