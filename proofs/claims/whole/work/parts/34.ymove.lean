/-! the yard: what is fixed; what a movement needs -/
def yA (len siz : Nat → Nat) (ded : Nat → Bool) (n : Nat) (m : Mu) : Prop := (∀ p, p < 13 → m 0 p = nI (len p) ∧ len p ≤ 60) ∧ (∀ l, l < n → m 4 l = nI (siz l) ∧ 1 ≤ siz l ∧ siz l ≤ 20) ∧ m 8 5 = nI n ∧ n ≤ 8 ∧ ∃ D, D < 256 ∧ m 8 6 = nI D ∧ ∀ l, l < n → D.testBit l = ded l
theorem yA.same {len siz : Nat → Nat} {ded : Nat → Bool} {n : Nat} {m m' : Mu} (h : yA len siz ded n m) (hs : y_same m m') : yA len siz ded n m' := by
  unfold yA
  rw [hs 0 (by decide) (by decide) (by decide), hs 4 (by decide) (by decide) (by decide), hs 8 (by decide) (by decide) (by decide)]
  exact h
/-- the moved ones -/
def mvd (kd ang : Nat) (row : Nat → List Nat) (k : Nat) : List Nat := if kd = 40 then (row 12).drop ((row 12).length - k) else (row (srcOf kd ang)).take k
section YM
variable {m : Mu} {len siz : Nat → Nat} {ded : Nat → Bool} {n : Nat} {row : Nat → List Nat} {kd ang : Nat} {K : Int32 → Prop}
theorem sm_le {siz : Nat → Nat} : ∀ {xs : List Nat}, (∀ l ∈ xs, siz l ≤ 20) → sm siz xs ≤ 20 * xs.length
  | [], _ => Nat.zero_le _
  | x :: xs, h => by
    have h1 := h x List.mem_cons_self
    have h2 := sm_le (xs := xs) (fun l hl => h l (List.mem_cons_of_mem _ hl))
    show siz x + sm siz xs ≤ 20 * (xs.length + 1)
    omega
def mvI (kd c i : Nat) : Nat := if kd = 40 then c - 1 - i else i
theorem mvd_step {i l : Nat} (hk : isKd kd) (hi : i < (row (srcOf kd ang)).length) (hl : (row (srcOf kd ang))[mvI kd (row (srcOf kd ang)).length i]? = some l) : sm siz (mvd kd ang row (i + 1)) = sm siz (mvd kd ang row i) + siz l ∧ (mvd kd ang row (i + 1)).all ded = ((mvd kd ang row i).all ded && ded l) := by
  rcases hk with rfl | rfl | rfl | rfl
  · have hl' : (row (srcOf 10 ang))[i]? = some l := hl
    show sm siz ((row (srcOf 10 ang)).take (i + 1)) = sm siz ((row (srcOf 10 ang)).take i) + siz l ∧ ((row (srcOf 10 ang)).take (i + 1)).all ded = (((row (srcOf 10 ang)).take i).all ded && ded l)
    rw [take_snoc hl', sm_app, List.all_append]
    exact ⟨by simp [sm], by simp⟩
  · have hl' : (row (srcOf 20 ang))[i]? = some l := hl
    show sm siz ((row (srcOf 20 ang)).take (i + 1)) = sm siz ((row (srcOf 20 ang)).take i) + siz l ∧ ((row (srcOf 20 ang)).take (i + 1)).all ded = (((row (srcOf 20 ang)).take i).all ded && ded l)
    rw [take_snoc hl', sm_app, List.all_append]
    exact ⟨by simp [sm], by simp⟩
  · have hl' : (row (srcOf 30 ang))[i]? = some l := hl
    show sm siz ((row (srcOf 30 ang)).take (i + 1)) = sm siz ((row (srcOf 30 ang)).take i) + siz l ∧ ((row (srcOf 30 ang)).take (i + 1)).all ded = (((row (srcOf 30 ang)).take i).all ded && ded l)
    rw [take_snoc hl', sm_app, List.all_append]
    exact ⟨by simp [sm], by simp⟩
  · have hi' : i < (row 12).length := hi
    have hl' : (row 12)[(row 12).length - 1 - i]? = some l := hl
    have e : (row 12).drop ((row 12).length - (i + 1)) = l :: (row 12).drop ((row 12).length - i) := by
      rw [show (row 12).length - (i + 1) = (row 12).length - 1 - i by omega, drop_cons hl', show (row 12).length - 1 - i + 1 = (row 12).length - i by omega]
    show sm siz ((row 12).drop ((row 12).length - (i + 1))) = sm siz ((row 12).drop ((row 12).length - i)) + siz l ∧ ((row 12).drop ((row 12).length - (i + 1))).all ded = (((row 12).drop ((row 12).length - i)).all ded && ded l)
    rw [e]
    refine ⟨?_, ?_⟩
    · show siz l + _ = _
      omega
    · rw [List.all_cons, Bool.and_comm]
theorem mvd_zero : mvd kd ang row 0 = [] := by
  unfold mvd
  split <;> simp
theorem mvd_mem {k l : Nat} (hk : isKd kd) (h : l ∈ mvd kd ang row k) : l ∈ row (srcOf kd ang) := by
  rcases hk with rfl | rfl | rfl | rfl
  · exact List.mem_of_mem_take h
  · exact List.mem_of_mem_take h
  · exact List.mem_of_mem_take h
  · exact List.mem_of_mem_drop h
theorem mvd_len {k : Nat} (hk : isKd kd) (h : k ≤ (row (srcOf kd ang)).length) : (mvd kd ang row k).length = k := by
  rcases hk with rfl | rfl | rfl | rfl
  · show ((row (srcOf 10 ang)).take k).length = k
    simp; omega
  · show ((row (srcOf 20 ang)).take k).length = k
    simp; omega
  · show ((row (srcOf 30 ang)).take k).length = k
    simp; omega
  · have h' : k ≤ (row 12).length := h
    show ((row 12).drop ((row 12).length - k)).length = k
    simp; omega
/-- why a movement is refused: 0 if it isn't -/
def mvErr (len siz : Nat → Nat) (ded : Nat → Bool) (row : Nat → List Nat) (kd ang k : Nat) : Int32 :=
  if (mvd kd ang row k).all ded = true then -7 else if len (tgtOf kd ang) < sm siz (row (tgtOf kd ang)) + sm siz (mvd kd ang row k) then -8 else 0
theorem t_mvErr_loop {k : Nat} (hk : isKd kd) (ha : m 8 7 = nI ang) (ha12 : ang < 12) (hA : yA len siz ded n m) (hB : yB siz row m) (hrow : ∀ p, p < 13 → ∀ l ∈ row p, l < n) (hfit : sm siz (row (tgtOf kd ang)) ≤ len (tgtOf kd ang)) (h1 : k ≤ (row (srcOf kd ang)).length) (h : K (mvErr len siz ded row kd ang k)) :
    ∀ d i, i + d = k → lpX3_movementError_49 m K (d + 1) (nI kd) (nI k) (nI (srcOf kd ang)) (nI (row (srcOf kd ang)).length) (nI (sm siz (mvd kd ang row i))) (if (mvd kd ang row i).all ded then 0 else 1) (nI i) := by
  have hpos := posOf_lt (kd := kd) ha12
  have hk2 : kd < 2 ^ 31 := by rcases hk with rfl | rfl | rfl | rfl <;> decide
  have hsrc : srcOf kd ang < 13 := by unfold srcOf; split <;> omega
  have htgt : tgtOf kd ang < 13 := by unfold tgtOf; split <;> omega
  obtain ⟨b1, b2, b3, b4⟩ := hB _ hsrc
  obtain ⟨a1, a2, a3, a4, D, a5, a6, a7⟩ := id hA
  have hbig : ∀ i, i ≤ k → sm siz (mvd kd ang row i) ≤ 160 := by
    intro i hi
    have h5 := sm_le (siz := siz) (xs := mvd kd ang row i) (fun l hl => (a2 l (hrow _ hsrc l (mvd_mem hk hl))).2.2)
    rw [mvd_len hk (by omega)] at h5
    omega
  intro d
  induction d with
  | zero =>
    intro i hi
    have e : i = k := by omega
    subst e
    unfold lpX3_movementError_49
    refine ⟨fun _ => ?_, fun q => absurd (Int32.le_refl _) q⟩
    unfold mvErr at h
    by_cases hd : (mvd kd ang row i).all ded = true
    · rw [if_pos hd] at h ⊢
      exact ⟨fun _ => h, fun c => absurd rfl c⟩
    · rw [if_neg hd] at h ⊢
      refine ⟨fun c => absurd c (by decide), fun _ => t_target hk ha ha12 (t_freeAt htgt ?_)⟩
      rw [(a1 _ htgt).1, (hB _ htgt).2.1, pk_sub hfit]
      have hl60 := (a1 _ htgt).2
      have hs := hbig i (Nat.le_refl _)
      by_cases h8 : len (tgtOf kd ang) < sm siz (row (tgtOf kd ang)) + sm siz (mvd kd ang row i)
      · rw [if_pos h8] at h
        exact ⟨fun c => absurd ((nI_leI (by omega) (by omega)).mp c) (by omega), fun _ => h⟩
      · rw [if_neg h8] at h
        exact ⟨fun _ => h, fun c => absurd (nI_le (by omega) (by omega)) c⟩
  | succ d ih =>
    intro i hi
    have hic : i < (row (srcOf kd ang)).length := by omega
    have hmi : mvI kd (row (srcOf kd ang)).length i < (row (srcOf kd ang)).length := by unfold mvI; split <;> omega
    have hl := List.getElem?_eq_getElem hmi
    generalize hle : (row (srcOf kd ang))[mvI kd (row (srcOf kd ang)).length i] = l at hl
    obtain ⟨s1, s2⟩ := mvd_step (siz := siz) (ded := ded) hk hic hl
    have hln : l < n := hrow _ hsrc l (List.mem_of_getElem? hl)
    obtain ⟨c1, c2, c3⟩ := b4 _ l hl
    have key : jnX3_movementError_75 m K (fun a0 a1 a2 a3 a4 a5 a6 => lpX3_movementError_49 m K (d + 1) a0 a1 a2 a3 a4 a5 a6) (nI kd) (nI k) (nI (srcOf kd ang)) (nI (row (srcOf kd ang)).length) (nI (sm siz (mvd kd ang row i))) (if (mvd kd ang row i).all ded then 0 else 1) (nI i) (nI (mvI kd (row (srcOf kd ang)).length i)) (nI (srcOf kd ang)) := by
      unfold jnX3_movementError_75
      refine t_locAt hsrc b1 b3 hmi ?_
      rw [c1]
      refine t_sizeOf c2 (fun x16 e16 => ?_)
      have ex : x16 = nI (sm siz (mvd kd ang row (i + 1))) := by rw [e16, c3, nI_add, s1]
      rw [ex]
      have hih := ih (i + 1) (by omega)
      rw [s2] at hih
      refine ⟨fun q => ?_, fun q x22 e22 => ?_⟩
      · have hall : (mvd kd ang row i).all ded = true := by
          cases hb : (mvd kd ang row i).all ded with
          | true => rfl
          | false => rw [hb] at q; exact absurd q (by decide)
        refine t_isAlive a3 a4 a6 a5 hln ?_
        rw [a7 l hln]
        rw [hall] at hih
        refine ⟨fun q2 x20 e20 => ?_, fun q2 x21 e21 => ?_⟩
        · have hd : ded l = true := by
            cases hb : ded l with
            | true => rfl
            | false => rw [hb] at q2; exact absurd q2 (by decide)
          rw [hd] at hih
          rw [e20, nI_1]
          exact hih
        · have hd : ded l = false := by
            cases hb : ded l with
            | false => rfl
            | true => rw [hb] at q2; exact absurd rfl q2
          rw [hd] at hih
          rw [e21, nI_1]
          exact hih
      · have hall : (mvd kd ang row i).all ded = false := by
          cases hb : (mvd kd ang row i).all ded with
          | false => rfl
          | true => rw [hb] at q; exact absurd rfl q
        rw [hall] at hih
        rw [e22, nI_1]
        exact hih
    unfold lpX3_movementError_49
    refine ⟨fun q => absurd q (nI_ge (by omega) (by omega)), fun _ => ⟨fun c => ?_, fun c => ?_⟩⟩
    · have ek : kd = 40 := (nI_eq hk2 (by decide)).mp c
      have e1 : (nI (row (srcOf kd ang)).length - (1 : Int32)) - nI i = nI (mvI kd (row (srcOf kd ang)).length i) := by
        rw [nI_m1 (by omega), pk_sub (by omega)]
        unfold mvI
        rw [if_pos ek]
      rw [e1]
      exact key
    · have ek : ¬ kd = 40 := fun q => c (by rw [q]; rfl)
      have e1 : mvI kd (row (srcOf kd ang)).length i = i := if_neg ek
      rw [e1] at key
      exact key
theorem t_mvErr {k : Nat} (hk : isKd kd) (ha : m 8 7 = nI ang) (ha12 : ang < 12) (hA : yA len siz ded n m) (hB : yB siz row m) (hrow : ∀ p, p < 13 → ∀ l ∈ row p, l < n) (hfit : sm siz (row (tgtOf kd ang)) ≤ len (tgtOf kd ang)) (hpos : 0 < len (posOf kd ang)) (h1 : k ≤ (row (srcOf kd ang)).length) (h : K (mvErr len siz ded row kd ang k)) : wX3_movementError (nI kd) (nI k) m K := by
  have hp12 := posOf_lt (kd := kd) ha12
  have hsrc : srcOf kd ang < 13 := by unfold srcOf; split <;> omega
  obtain ⟨b1, b2, b3, b4⟩ := hB _ hsrc
  have hl := hA.1 _ (show posOf kd ang < 13 by omega)
  refine t_pos hk ha ha12 (t_lengthAt (by omega) ?_)
  rw [hl.1]
  refine ⟨fun q => absurd q (nI_ne0 hpos (by omega)), fun _ => t_source hk ha ha12 (t_countAt hsrc ?_)⟩
  rw [b1]
  refine ⟨fun _ => ⟨k + 1, ?_⟩, fun q => absurd (nI_le h1 (by omega)) q⟩
  have := t_mvErr_loop hk ha ha12 hA hB hrow hfit h1 h k 0 (by omega)
  rw [mvd_zero] at this
  exact this
theorem t_mvErr_none (hk : isKd kd) (ha : m 8 7 = nI ang) (ha12 : ang < 12) {x : Int32} (hA : yA len siz ded n m) (hpos : len (posOf kd ang) = 0) (h : K (-2)) : wX3_movementError (nI kd) x m K := by
  have hp12 := posOf_lt (kd := kd) ha12
  have hl := hA.1 _ (show posOf kd ang < 13 by omega)
  refine t_pos hk ha ha12 (t_lengthAt (by omega) ?_)
  rw [hl.1, hpos]
  exact ⟨fun _ => h, fun q => absurd rfl q⟩
theorem t_mvErr_few (hk : isKd kd) (ha : m 8 7 = nI ang) (ha12 : ang < 12) {x : Int32} (hA : yA len siz ded n m) (hB : yB siz row m) (hpos : 0 < len (posOf kd ang)) (hx : ¬ x ≤ nI (row (srcOf kd ang)).length) (h : K (-6)) : wX3_movementError (nI kd) x m K := by
  have hp12 := posOf_lt (kd := kd) ha12
  have hsrc : srcOf kd ang < 13 := by unfold srcOf; split <;> omega
  have hl := hA.1 _ (show posOf kd ang < 13 by omega)
  refine t_pos hk ha ha12 (t_lengthAt (by omega) ?_)
  rw [hl.1]
  refine ⟨fun q => absurd q (nI_ne0 hpos (by omega)), fun _ => t_source hk ha ha12 (t_countAt hsrc ?_)⟩
  rw [(hB _ hsrc).1]
  exact ⟨fun q => absurd q hx, fun _ => h⟩
end YM
