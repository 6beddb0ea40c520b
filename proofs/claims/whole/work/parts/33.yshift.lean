/-! the yard: several locomotives moved -/
def posOf (kd ang : Nat) : Nat := if kd = 10 ∨ kd = 30 then ang else (ang + 6) % 12
def srcOf (kd ang : Nat) : Nat := if kd < 30 then posOf kd ang else 12
def tgtOf (kd ang : Nat) : Nat := if kd < 30 then 12 else posOf kd ang
def isKd (kd : Nat) : Prop := kd = 10 ∨ kd = 20 ∨ kd = 30 ∨ kd = 40
theorem posOf_lt {kd ang : Nat} (h : ang < 12) : posOf kd ang < 12 := by
  unfold posOf
  split
  · exact h
  · exact Nat.mod_lt _ (by decide)
section YS
variable {m : Mu} {siz : Nat → Nat} {row : Nat → List Nat} {kd ang : Nat}
theorem t_pos {K : Int32 → Prop} (hk : isKd kd) (ha : m 8 7 = nI ang) (ha12 : ang < 12) (h : K (nI (posOf kd ang))) : wX4_endOf (nI kd) (fun r => wX3_positionAt r m K) := by
  rcases hk with rfl | rfl | rfl | rfl
  · exact ⟨fun _ => t_posA (by rw [ha]; exact h), fun c => absurd rfl c⟩
  · exact ⟨fun c => absurd c (by decide), fun _ => ⟨fun c => absurd c (by decide), fun _ => t_posB ha ha12 h⟩⟩
  · exact ⟨fun c => absurd c (by decide), fun _ => ⟨fun _ => t_posA (by rw [ha]; exact h), fun c => absurd rfl c⟩⟩
  · exact ⟨fun c => absurd c (by decide), fun _ => ⟨fun c => absurd c (by decide), fun _ => t_posB ha ha12 h⟩⟩
theorem t_source {K : Int32 → Prop} (hk : isKd kd) (ha : m 8 7 = nI ang) (ha12 : ang < 12) (h : K (nI (srcOf kd ang))) : wX3_sourceOf (nI kd) m K := by
  have h2 : kd < 30 → K (nI (posOf kd ang)) := fun q => by unfold srcOf at h; rw [if_pos q] at h; exact h
  have h3 : 30 ≤ kd → K 12 := fun q => by unfold srcOf at h; rw [if_neg (by omega)] at h; exact h
  have hk2 : kd < 2 ^ 31 := by rcases hk with rfl | rfl | rfl | rfl <;> decide
  refine ⟨fun c => h3 ((nI_leI (a := 30) (by decide) hk2).mp c), fun c => t_pos hk ha ha12 (h2 ?_)⟩
  exact Nat.lt_of_not_le (fun q => c (nI_le q hk2))
theorem t_target {K : Int32 → Prop} (hk : isKd kd) (ha : m 8 7 = nI ang) (ha12 : ang < 12) (h : K (nI (tgtOf kd ang))) : wX3_targetOf (nI kd) m K := by
  have h2 : 30 ≤ kd → K (nI (posOf kd ang)) := fun q => by unfold tgtOf at h; rw [if_neg (by omega)] at h; exact h
  have h3 : kd < 30 → K 12 := fun q => by unfold tgtOf at h; rw [if_pos q] at h; exact h
  have hk2 : kd < 2 ^ 31 := by rcases hk with rfl | rfl | rfl | rfl <;> decide
  refine ⟨fun c => t_pos hk ha ha12 (h2 ((nI_leI (a := 30) (by decide) hk2).mp c)), fun c => h3 ?_⟩
  exact Nat.lt_of_not_le (fun q => c (nI_le q hk2))
-- one step, kind by kind
theorem drop_cons {xs : List Nat} {i l : Nat} (h : xs[i]? = some l) : xs.drop i = l :: xs.drop (i + 1) := by
  rw [List.drop_eq_getElem_cons (List.getElem?_eq_some_iff.mp h).1]
  congr 1
  exact (List.getElem?_eq_some_iff.mp h).2
theorem take_snoc {xs : List Nat} {i l : Nat} (h : xs[i]? = some l) : xs.take (i + 1) = xs.take i ++ [l] := by
  rw [List.take_add_one, h]
  rfl
/-- the source's index and the target's, at a step -/
def srcI (kd : Nat) (r : Nat → List Nat) : Nat := if kd = 40 then (r 12).length - 1 else 0
theorem mv_step {pos i : Nat} (hk : isKd kd) (hpos : pos < 12) (hi : i < (row (if kd < 30 then pos else 12)).length) :
    ∃ l, l ∈ row (if kd < 30 then pos else 12) ∧ (mvA kd pos row i (if kd < 30 then pos else 12))[srcI kd (mvA kd pos row i)]? = some l ∧
      ∀ r1 : Nat → List Nat, r1 = va_up (mvA kd pos row i) (if kd < 30 then pos else 12) (eraAt (mvA kd pos row i (if kd < 30 then pos else 12)) (srcI kd (mvA kd pos row i))) →
        (r1 (if kd < 30 then 12 else pos)).length = (row (if kd < 30 then 12 else pos)).length + i ∧
        va_up r1 (if kd < 30 then 12 else pos) (insAt (r1 (if kd < 30 then 12 else pos)) (if kd = 20 then (r1 12).length else 0) l) = mvA kd pos row (i + 1) := by
  have hne : (12 : Nat) ≠ pos := by omega
  have hne2 : pos ≠ 12 := by omega
  rcases hk with rfl | rfl | rfl | rfl
  · simp only [show (10 : Nat) < 30 by decide, if_true] at hi ⊢
    refine ⟨(row pos)[i], List.getElem_mem hi, ?_, ?_⟩
    · simp [srcI, mvA, va_up_ne _ _ hne2, va_up_self, hi]
    · intro r1 e1
      have hl : (row pos)[i]? = some (row pos)[i] := List.getElem?_eq_getElem hi
      have e2 : r1 = va_up (va_up row pos ((row pos).drop (i + 1))) 12 (((row pos).take i).reverse ++ row 12) := by
        rw [e1]
        simp only [srcI, mvA, if_true, va_up_ne _ _ hne2, va_up_self]
        rw [if_neg (by decide), era0, List.drop_drop, up_comm _ hne, up_up]
      rw [e2]
      refine ⟨by rw [va_up_self]; simp; omega, ?_⟩
      simp only [if_neg (show ¬ (10 : Nat) = 20 by decide), va_up_self, ins0, up_up, mvA, if_true]
      rw [take_snoc hl, List.reverse_append]
      rfl
  · simp only [show (20 : Nat) < 30 by decide, if_true] at hi ⊢
    refine ⟨(row pos)[i], List.getElem_mem hi, ?_, ?_⟩
    · simp [srcI, mvA, va_up_ne _ _ hne2, va_up_self, hi]
    · intro r1 e1
      have hl : (row pos)[i]? = some (row pos)[i] := List.getElem?_eq_getElem hi
      have e2 : r1 = va_up (va_up row pos ((row pos).drop (i + 1))) 12 (row 12 ++ (row pos).take i) := by
        rw [e1]
        simp only [srcI, mvA, if_true, if_neg (show ¬ (20 : Nat) = 10 by decide), va_up_ne _ _ hne2, va_up_self]
        rw [if_neg (by decide), era0, List.drop_drop, up_comm _ hne, up_up]
      rw [e2]
      refine ⟨by rw [va_up_self]; simp; omega, ?_⟩
      simp only [va_up_self, insEnd, up_up, mvA, if_true, if_neg (show ¬ (20 : Nat) = 10 by decide)]
      rw [take_snoc hl]
      simp
  · simp only [show ¬ (30 : Nat) < 30 by decide, if_false] at hi ⊢
    refine ⟨(row 12)[i], List.getElem_mem hi, ?_, ?_⟩
    · simp [srcI, mvA, va_up_ne _ _ hne, va_up_self, hi]
    · intro r1 e1
      have hl : (row 12)[i]? = some (row 12)[i] := List.getElem?_eq_getElem hi
      have e2 : r1 = va_up (va_up row 12 ((row 12).drop (i + 1))) pos (((row 12).take i).reverse ++ row pos) := by
        rw [e1]
        simp only [srcI, mvA, if_true, if_neg (show ¬ (30 : Nat) = 10 by decide), if_neg (show ¬ (30 : Nat) = 20 by decide), va_up_ne _ _ hne, va_up_self]
        rw [if_neg (by decide), era0, List.drop_drop, up_comm _ hne2, up_up]
      rw [e2]
      refine ⟨by rw [va_up_self]; simp; omega, ?_⟩
      simp only [va_up_self, if_neg (show ¬ (30 : Nat) = 20 by decide), ins0, up_up, mvA, if_true, if_neg (show ¬ (30 : Nat) = 10 by decide)]
      rw [take_snoc hl, List.reverse_append]
      rfl
  · simp only [show ¬ (40 : Nat) < 30 by decide, if_false] at hi ⊢
    have hj : (row 12).length - (i + 1) < (row 12).length := by omega
    have hlast : ((row 12).take ((row 12).length - i))[(row 12).length - i - 1]? = some (row 12)[(row 12).length - (i + 1)] := by
      rw [List.getElem?_take_of_lt (by omega), show (row 12).length - i - 1 = (row 12).length - (i + 1) by omega]
      exact List.getElem?_eq_getElem hj
    refine ⟨(row 12)[(row 12).length - (i + 1)], List.getElem_mem hj, ?_, ?_⟩
    · simp only [srcI, mvA, if_neg (show ¬ (40 : Nat) = 10 by decide), if_neg (show ¬ (40 : Nat) = 20 by decide), if_neg (show ¬ (40 : Nat) = 30 by decide), if_true, va_up_ne _ _ hne, va_up_self]
      rw [List.length_take, Nat.min_eq_left (Nat.sub_le _ _)]
      exact hlast
    · intro r1 e1
      have e2 : r1 = va_up (va_up row 12 ((row 12).take ((row 12).length - (i + 1)))) pos ((row 12).drop ((row 12).length - i) ++ row pos) := by
        rw [e1]
        simp only [srcI, mvA, if_neg (show ¬ (40 : Nat) = 10 by decide), if_neg (show ¬ (40 : Nat) = 20 by decide), if_neg (show ¬ (40 : Nat) = 30 by decide), if_true, va_up_ne _ _ hne, va_up_self]
        have e3 : eraAt ((row 12).take ((row 12).length - i)) (((row 12).take ((row 12).length - i)).length - 1) = (row 12).take ((row 12).length - (i + 1)) := by
          unfold eraAt
          rw [List.length_take, Nat.min_eq_left (Nat.sub_le _ _), List.drop_eq_nil_of_le (by rw [List.length_take]; omega), List.append_nil, List.take_take]
          congr 1
          omega
        rw [e3, up_comm _ hne2, up_up]
      rw [e2]
      refine ⟨by rw [va_up_self]; simp; omega, ?_⟩
      simp only [va_up_self, if_neg (show ¬ (40 : Nat) = 20 by decide), ins0, up_up, mvA, if_neg (show ¬ (40 : Nat) = 10 by decide), if_neg (show ¬ (40 : Nat) = 30 by decide)]
      rw [drop_cons (xs := row 12) (i := (row 12).length - (i + 1)) (List.getElem?_eq_getElem hj), show (row 12).length - (i + 1) + 1 = (row 12).length - i by omega]
      rfl
theorem srcOf_eq : srcOf kd ang = if kd < 30 then posOf kd ang else 12 := rfl
theorem mvA_src_len {pos i : Nat} (hk : isKd kd) (hpos : pos < 12) (hi : i ≤ (row (if kd < 30 then pos else 12)).length) : (mvA kd pos row i (if kd < 30 then pos else 12)).length = (row (if kd < 30 then pos else 12)).length - i := by
  have hne : (12 : Nat) ≠ pos := by omega
  have hne2 : pos ≠ 12 := by omega
  rcases hk with rfl | rfl | rfl | rfl <;> simp [mvA, va_up_ne _ _ hne, va_up_ne _ _ hne2, va_up_self]
/-- the sizes of what stands in the rows -/
def yZ (siz : Nat → Nat) (row : Nat → List Nat) (m : Mu) : Prop := ∀ p, p < 13 → ∀ l ∈ row p, l < 8 ∧ m 4 l = nI (siz l)
theorem yB.sizes (h : yB siz row m) : yZ siz row m := fun p hp l hl => by
  obtain ⟨i, hi⟩ := List.getElem?_of_mem hl
  exact ((h p hp).2.2.2 i l hi).2
theorem t_shift_loop {K : Mu → Prop} {k : Nat} (hk : isKd kd) (ha12 : ang < 12) (hB : yB siz row m) (h1 : k ≤ (row (srcOf kd ang)).length) (h2 : (row (tgtOf kd ang)).length + k ≤ 8) (h : ∀ m', yB siz (mvA kd (posOf kd ang) row k) m' → y_same m m' → K m') : ∀ d i m1, i + d = k → yB siz (mvA kd (posOf kd ang) row i) m1 → y_same m m1 → lpX3_shift_16 K (d + 1) (nI kd) (nI k) (nI (srcOf kd ang)) (nI (tgtOf kd ang)) (nI i) m1 := by
  have hpos := posOf_lt (kd := kd) ha12
  have hk2 : kd < 2 ^ 31 := by rcases hk with rfl | rfl | rfl | rfl <;> decide
  have hsrc : srcOf kd ang < 13 := by unfold srcOf; split <;> omega
  have htgt : tgtOf kd ang < 13 := by unfold tgtOf; split <;> omega
  have hr8 := (hB _ hsrc).2.2.1
  intro d
  induction d with
  | zero =>
    intro i m1 hi hB1 hs
    have e : i = k := by omega
    subst e
    unfold lpX3_shift_16
    exact ⟨fun _ => h m1 hB1 hs, fun q => absurd (Int32.le_refl _) q⟩
  | succ d ih =>
    intro i m1 hi hB1 hs
    obtain ⟨l, hlm, hl, hst⟩ := mv_step (row := row) (pos := posOf kd ang) (i := i) hk hpos (by have := h1; unfold srcOf at this; omega)
    have hsz := hB.sizes _ hsrc l (by unfold srcOf; exact hlm)
    have key : jnX3_shift_42 K (fun a0 a1 a2 a3 a4 mm => lpX3_shift_16 K (d + 1) a0 a1 a2 a3 a4 mm) (nI kd) (nI k) (nI (srcOf kd ang)) (nI (tgtOf kd ang)) (nI i) (nI (srcI kd (mvA kd (posOf kd ang) row i))) (nI (srcOf kd ang)) m1 := by
      unfold jnX3_shift_42
      refine t_take hB1 hsrc (l := l) hl (fun m7 hB7 hs7 => ?_)
      obtain ⟨g1, g2⟩ := hst _ rfl
      have g1' : (va_up (mvA kd (posOf kd ang) row i) (srcOf kd ang) (eraAt (mvA kd (posOf kd ang) row i (srcOf kd ang)) (srcI kd (mvA kd (posOf kd ang) row i))) (tgtOf kd ang)).length = (row (tgtOf kd ang)).length + i := g1
      have hm4 : m7 4 l = nI (siz l) := by rw [hs7 4 (by decide) (by decide) (by decide), hs 4 (by decide) (by decide) (by decide)]; exact hsz.2
      refine ⟨fun c => ?_, fun c => ?_⟩
      · have ek : kd = 20 := (nI_eq hk2 (by decide)).mp c
        subst ek
        refine t_countAt (by decide) ?_
        rw [(hB7 12 (by decide)).1]
        refine t_put hB7 htgt (Nat.le_refl _) (by rw [g1']; omega) hsz.1 hm4 (fun m10 hB10 hs10 x11 e11 => ?_)
        have ex : x11 = nI (i + 1) := by rw [e11]; exact nI_1 i
        rw [ex]
        refine ih (i + 1) m10 (by omega) ?_ (hs.tr (hs7.tr hs10))
        have : mvA 20 (posOf 20 ang) row (i + 1) = va_up (va_up (mvA 20 (posOf 20 ang) row i) (srcOf 20 ang) (eraAt (mvA 20 (posOf 20 ang) row i (srcOf 20 ang)) (srcI 20 (mvA 20 (posOf 20 ang) row i)))) (tgtOf 20 ang) (insAt (va_up (mvA 20 (posOf 20 ang) row i) (srcOf 20 ang) (eraAt (mvA 20 (posOf 20 ang) row i (srcOf 20 ang)) (srcI 20 (mvA 20 (posOf 20 ang) row i))) (tgtOf 20 ang)) ((va_up (mvA 20 (posOf 20 ang) row i) (srcOf 20 ang) (eraAt (mvA 20 (posOf 20 ang) row i (srcOf 20 ang)) (srcI 20 (mvA 20 (posOf 20 ang) row i)))) 12).length l) := g2.symm
        rw [this]
        exact hB10
      · have ek : ¬ kd = 20 := fun q => c (by rw [q]; rfl)
        refine t_put hB7 htgt (Nat.zero_le _) (by omega) hsz.1 hm4 (fun m12 hB12 hs12 x13 e13 => ?_)
        have ex : x13 = nI (i + 1) := by rw [e13]; exact nI_1 i
        rw [ex]
        refine ih (i + 1) m12 (by omega) ?_ (hs.tr (hs7.tr hs12))
        rw [if_neg ek] at g2
        have : mvA kd (posOf kd ang) row (i + 1) = va_up (va_up (mvA kd (posOf kd ang) row i) (srcOf kd ang) (eraAt (mvA kd (posOf kd ang) row i (srcOf kd ang)) (srcI kd (mvA kd (posOf kd ang) row i)))) (tgtOf kd ang) (insAt (va_up (mvA kd (posOf kd ang) row i) (srcOf kd ang) (eraAt (mvA kd (posOf kd ang) row i (srcOf kd ang)) (srcI kd (mvA kd (posOf kd ang) row i))) (tgtOf kd ang)) 0 l) := g2.symm
        rw [this]
        exact hB12
    unfold lpX3_shift_16
    refine ⟨fun q => absurd q (nI_ge (by omega) (by omega)), fun _ => ⟨fun c => ?_, fun c => ?_⟩⟩
    · have ek : kd = 40 := (nI_eq hk2 (by decide)).mp c
      subst ek
      refine t_countAt (by decide) ?_
      have hlen : 0 < (mvA 40 (posOf 40 ang) row i 12).length := by
        have h5 : (mvA 40 (posOf 40 ang) row i 12)[srcI 40 (mvA 40 (posOf 40 ang) row i)]? = some l := hl
        have := (List.getElem?_eq_some_iff.mp h5).1
        omega
      rw [(hB1 12 (by decide)).1, nI_m1 hlen]
      exact key
    · have ek : ¬ kd = 40 := fun q => c (by rw [q]; rfl)
      have e0 : srcI kd (mvA kd (posOf kd ang) row i) = 0 := if_neg ek
      rw [e0] at key
      exact key
theorem t_shift {K : Mu → Prop} {k : Nat} (hk : isKd kd) (ha : m 8 7 = nI ang) (ha12 : ang < 12) (hB : yB siz row m) (h1 : k ≤ (row (srcOf kd ang)).length) (h2 : (row (tgtOf kd ang)).length + k ≤ 8) (h : ∀ m', yB siz (mvA kd (posOf kd ang) row k) m' → y_same m m' → K m') : wX3_shift (nI kd) (nI k) m K := by
  refine t_source hk ha ha12 (t_target hk ha ha12 ⟨k + 1, ?_⟩)
  have := t_shift_loop hk ha12 hB h1 h2 h k 0 m (by omega) (by rw [mvA0 _ (posOf_lt ha12)]; exact hB) y_same.rf
  exact this
end YS
