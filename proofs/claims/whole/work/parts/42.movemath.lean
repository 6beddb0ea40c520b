/-! what a movement does to the rows -/
theorem sm_perm (siz : Nat → Nat) {a b : List Nat} (h : a.Perm b) : sm siz a = sm siz b := by
  induction h with
  | nil => rfl
  | cons x _ ih => show siz x + _ = siz x + _; rw [ih]
  | swap x y l => show siz y + (siz x + _) = siz x + (siz y + _); omega
  | trans _ _ h1 h2 => exact h1.trans h2
theorem few : ∀ (n : Nat) (xs : List Nat), xs.Nodup → (∀ x ∈ xs, x < n) → xs.length ≤ n
  | 0, xs, _, h => by
    cases xs with
    | nil => exact Nat.le_refl _
    | cons x _ => exact absurd (h x List.mem_cons_self) (by omega)
  | n + 1, xs, hn, h => by
    have h1 := few n (xs.erase n) (hn.erase n) (fun x hx => by
      have h2 := (List.Nodup.mem_erase_iff hn).mp hx
      have := h x h2.2
      have := h2.1
      omega)
    have h3 := List.length_erase (l := xs) (a := n)
    by_cases hm : n ∈ xs
    · rw [if_pos hm] at h3; omega
    · rw [if_neg hm] at h3; omega
section WM
variable {len siz : Nat → Nat} {n ang src tgt : Nat} {row row' : Nat → List Nat} {mv : List Nat}
theorem wf_cap (hw : wf len siz n ang row) (hs : src < 13) (ht : tgt < 13) (hne : src ≠ tgt) : (row src).length + (row tgt).length ≤ 8 := by
  obtain ⟨w1, w2, w3, w4, w5, w6, w7, w8⟩ := hw
  have := few n (row src ++ row tgt) (List.nodup_append.mpr ⟨w2 _ hs, w2 _ ht, fun a ha b hb e => by subst e; exact hne (w3 _ _ a hs ht ha hb)⟩) (fun x hx => by
    rcases List.mem_append.mp hx with h | h
    · exact w1 _ hs x h
    · exact w1 _ ht x h)
  simp at this
  omega
theorem wf_mv (hs : src < 13) (ht : tgt < 13) (hne : src ≠ tgt) (h1 : (mv ++ row' src).Perm (row src)) (h2 : (row' tgt).Perm (mv ++ row tgt)) (h3 : ∀ q, q ≠ src → q ≠ tgt → row' q = row q) (hfit : sm siz (row tgt) + sm siz mv ≤ len tgt) (hw : wf len siz n ang row) : wf len siz n ang row' := by
  obtain ⟨w1, w2, w3, w4, w5, w6, w7, w8⟩ := hw
  have nd1 : (mv ++ row' src).Nodup := h1.symm.nodup (w2 _ hs)
  have nd := List.nodup_append.mp nd1
  have ms : ∀ l ∈ mv, l ∈ row src := fun l hl => h1.mem_iff.mp (List.mem_append_left _ hl)
  have key : ∀ p l, p < 13 → l ∈ row' p → (l ∈ mv ∧ p = tgt) ∨ (l ∉ mv ∧ l ∈ row p) := by
    intro p l hp hl
    by_cases e1 : p = src
    · subst e1
      exact Or.inr ⟨fun hm => nd.2.2 l hm l hl rfl, h1.mem_iff.mp (List.mem_append_right _ hl)⟩
    · by_cases e2 : p = tgt
      · subst e2
        rcases List.mem_append.mp (h2.mem_iff.mp hl) with h | h
        · exact Or.inl ⟨h, rfl⟩
        · exact Or.inr ⟨fun hm => e1 (w3 _ _ l hp hs h (ms l hm)), h⟩
      · rw [h3 p e1 e2] at hl
        exact Or.inr ⟨fun hm => e1 (w3 _ _ l hp hs hl (ms l hm)), hl⟩
  refine ⟨fun p hp l hl => ?_, fun p hp => ?_, fun p q l hp hq hl1 hl2 => ?_, fun l hl => ?_, fun p hp => ?_, w6, w7, w8⟩
  · rcases key p l hp hl with ⟨h, -⟩ | ⟨-, h⟩
    · exact w1 _ hs l (ms l h)
    · exact w1 _ hp l h
  · by_cases e1 : p = src
    · subst e1; exact nd.2.1
    · by_cases e2 : p = tgt
      · subst e2
        exact h2.symm.nodup (List.nodup_append.mpr ⟨nd.1, w2 _ hp, fun a ha b hb e => by subst e; exact hne (w3 _ _ a hs hp (ms a ha) hb)⟩)
      · rw [h3 p e1 e2]; exact w2 p hp
  · rcases key p l hp hl1 with ⟨a1, a2⟩ | ⟨a1, a2⟩ <;> rcases key q l hq hl2 with ⟨b1, b2⟩ | ⟨b1, b2⟩
    · rw [a2, b2]
    · exact absurd a1 b1
    · exact absurd b1 a1
    · exact w3 _ _ l hp hq a2 b2
  · obtain ⟨p, hp, hm⟩ := w4 l hl
    by_cases e1 : p = src
    · subst e1
      rcases List.mem_append.mp (h1.mem_iff.mpr hm) with h | h
      · exact ⟨tgt, ht, h2.mem_iff.mpr (List.mem_append_left _ h)⟩
      · exact ⟨p, hp, h⟩
    · by_cases e2 : p = tgt
      · subst e2
        exact ⟨p, hp, h2.mem_iff.mpr (List.mem_append_right _ hm)⟩
      · exact ⟨p, hp, by rw [h3 p e1 e2]; exact hm⟩
  · have g := w5 p hp
    by_cases e1 : p = src
    · subst e1
      have := sm_perm siz h1
      rw [sm_app] at this
      omega
    · by_cases e2 : p = tgt
      · subst e2
        have := sm_perm siz h2
        rw [sm_app] at this
        omega
      · rw [h3 p e1 e2]; exact g
end WM
section MR2
variable {row : Nat → List Nat} {kd ang k : Nat}
theorem src_ne (hk : isKd kd) (ha : ang < 12) : srcOf kd ang ≠ tgtOf kd ang ∧ srcOf kd ang < 13 ∧ tgtOf kd ang < 13 := by
  have := posOf_lt (kd := kd) ha
  unfold srcOf tgtOf
  split <;> refine ⟨?_, ?_, ?_⟩ <;> omega
theorem mv_perms (hk : isKd kd) (ha : ang < 12) : (mvd kd ang row k ++ mvA kd (posOf kd ang) row k (srcOf kd ang)).Perm (row (srcOf kd ang)) ∧ (mvA kd (posOf kd ang) row k (tgtOf kd ang)).Perm (mvd kd ang row k ++ row (tgtOf kd ang)) ∧ ∀ q, q ≠ srcOf kd ang → q ≠ tgtOf kd ang → mvA kd (posOf kd ang) row k q = row q := by
  have hpos := posOf_lt (kd := kd) ha
  have hne : (12 : Nat) ≠ posOf kd ang := by omega
  have hne2 : posOf kd ang ≠ 12 := by omega
  rcases hk with rfl | rfl | rfl | rfl
  · show (((row (posOf 10 ang)).take k ++ mvA 10 (posOf 10 ang) row k (posOf 10 ang)).Perm (row (posOf 10 ang)) ∧ (mvA 10 (posOf 10 ang) row k 12).Perm ((row (posOf 10 ang)).take k ++ row 12) ∧ ∀ q, q ≠ posOf 10 ang → q ≠ 12 → mvA 10 (posOf 10 ang) row k q = row q)
    refine ⟨?_, ?_, fun q h1 h2 => ?_⟩
    · simp only [mvA, if_true, va_up_ne _ _ hne2, va_up_self, List.take_append_drop]
      exact List.Perm.refl _
    · simp only [mvA, if_true, va_up_self]
      exact (List.reverse_perm _).append_right _
    · simp only [mvA, if_true, va_up_ne _ _ h2, va_up_ne _ _ h1]
  · show (((row (posOf 20 ang)).take k ++ mvA 20 (posOf 20 ang) row k (posOf 20 ang)).Perm (row (posOf 20 ang)) ∧ (mvA 20 (posOf 20 ang) row k 12).Perm ((row (posOf 20 ang)).take k ++ row 12) ∧ ∀ q, q ≠ posOf 20 ang → q ≠ 12 → mvA 20 (posOf 20 ang) row k q = row q)
    refine ⟨?_, ?_, fun q h1 h2 => ?_⟩
    · simp only [mvA, if_true, if_neg (show ¬ (20 : Nat) = 10 by decide), va_up_ne _ _ hne2, va_up_self, List.take_append_drop]
      exact List.Perm.refl _
    · simp only [mvA, if_true, if_neg (show ¬ (20 : Nat) = 10 by decide), va_up_self]
      exact List.perm_append_comm
    · simp only [mvA, if_true, if_neg (show ¬ (20 : Nat) = 10 by decide), va_up_ne _ _ h2, va_up_ne _ _ h1]
  · show (((row 12).take k ++ mvA 30 (posOf 30 ang) row k 12).Perm (row 12) ∧ (mvA 30 (posOf 30 ang) row k (posOf 30 ang)).Perm ((row 12).take k ++ row (posOf 30 ang)) ∧ ∀ q, q ≠ 12 → q ≠ posOf 30 ang → mvA 30 (posOf 30 ang) row k q = row q)
    refine ⟨?_, ?_, fun q h1 h2 => ?_⟩
    · simp only [mvA, if_true, if_neg (show ¬ (30 : Nat) = 10 by decide), if_neg (show ¬ (30 : Nat) = 20 by decide), va_up_ne _ _ hne, va_up_self, List.take_append_drop]
      exact List.Perm.refl _
    · simp only [mvA, if_true, if_neg (show ¬ (30 : Nat) = 10 by decide), if_neg (show ¬ (30 : Nat) = 20 by decide), va_up_self]
      exact (List.reverse_perm _).append_right _
    · simp only [mvA, if_true, if_neg (show ¬ (30 : Nat) = 10 by decide), if_neg (show ¬ (30 : Nat) = 20 by decide), va_up_ne _ _ h2, va_up_ne _ _ h1]
  · show (((row 12).drop ((row 12).length - k) ++ mvA 40 (posOf 40 ang) row k 12).Perm (row 12) ∧ (mvA 40 (posOf 40 ang) row k (posOf 40 ang)).Perm ((row 12).drop ((row 12).length - k) ++ row (posOf 40 ang)) ∧ ∀ q, q ≠ 12 → q ≠ posOf 40 ang → mvA 40 (posOf 40 ang) row k q = row q)
    refine ⟨?_, ?_, fun q h1 h2 => ?_⟩
    · simp only [mvA, if_neg (show ¬ (40 : Nat) = 10 by decide), if_neg (show ¬ (40 : Nat) = 20 by decide), if_neg (show ¬ (40 : Nat) = 30 by decide), va_up_ne _ _ hne, va_up_self]
      refine List.perm_append_comm.trans ?_
      rw [List.take_append_drop]
    · simp only [mvA, if_neg (show ¬ (40 : Nat) = 10 by decide), if_neg (show ¬ (40 : Nat) = 20 by decide), if_neg (show ¬ (40 : Nat) = 30 by decide), va_up_self]
      exact List.Perm.refl _
    · simp only [mvA, if_neg (show ¬ (40 : Nat) = 10 by decide), if_neg (show ¬ (40 : Nat) = 20 by decide), if_neg (show ¬ (40 : Nat) = 30 by decide), va_up_ne _ _ h2, va_up_ne _ _ h1]
theorem rv_kd (hk : isKd kd) : isKd (rv kd) ∧ rv (rv kd) = kd ∧ srcOf (rv kd) ang = tgtOf kd ang ∧ tgtOf (rv kd) ang = srcOf kd ang ∧ posOf (rv kd) ang = posOf kd ang := by
  rcases hk with rfl | rfl | rfl | rfl
  · exact ⟨Or.inr (Or.inr (Or.inl rfl)), rfl, rfl, rfl, rfl⟩
  · exact ⟨Or.inr (Or.inr (Or.inr rfl)), rfl, rfl, rfl, rfl⟩
  · exact ⟨Or.inl rfl, rfl, rfl, rfl, rfl⟩
  · exact ⟨Or.inr (Or.inl rfl), rfl, rfl, rfl, rfl⟩
theorem two_ext {f g : Nat → List Nat} {p : Nat} (h1 : f p = g p) (h2 : f 12 = g 12) (h3 : ∀ q, q ≠ p → q ≠ 12 → f q = g q) : f = g := by
  funext q
  by_cases e1 : q = p
  · subst e1; exact h1
  · by_cases e2 : q = 12
    · subst e2; exact h2
    · exact h3 q e1 e2
theorem mv_back (hk : isKd kd) {pos : Nat} (hpos : pos < 12) (h : k ≤ (row (if kd < 30 then pos else 12)).length) : mvA (rv kd) pos (mvA kd pos row k) k = row := by
  have hne : (12 : Nat) ≠ pos := by omega
  have hne2 : pos ≠ 12 := by omega
  rcases hk with rfl | rfl | rfl | rfl
  · have h' : k ≤ (row pos).length := h
    have el : ((row pos).take k).reverse.length = k := by simp; omega
    show mvA 30 pos (mvA 10 pos row k) k = row
    refine two_ext (p := pos) ?_ ?_ (fun q h1 h2 => ?_)
    · simp only [mvA, if_true, if_neg (show ¬ (30 : Nat) = 10 by decide), if_neg (show ¬ (30 : Nat) = 20 by decide), va_up_self, va_up_ne _ _ hne2]
      rw [List.take_append_of_le_length (by omega), List.take_of_length_le (by omega), List.reverse_reverse, List.take_append_drop]
    · simp only [mvA, if_true, if_neg (show ¬ (30 : Nat) = 10 by decide), if_neg (show ¬ (30 : Nat) = 20 by decide), va_up_self, va_up_ne _ _ hne]
      exact List.drop_left' el
    · simp only [mvA, if_true, if_neg (show ¬ (30 : Nat) = 10 by decide), if_neg (show ¬ (30 : Nat) = 20 by decide), va_up_ne _ _ h1, va_up_ne _ _ h2]
  · have h' : k ≤ (row pos).length := h
    have el : ((row pos).take k).length = k := by simp; omega
    have el2 : (row 12 ++ (row pos).take k).length - k = (row 12).length := by rw [List.length_append, el]; omega
    show mvA 40 pos (mvA 20 pos row k) k = row
    refine two_ext (p := pos) ?_ ?_ (fun q h1 h2 => ?_)
    · simp only [mvA, if_true, if_neg (show ¬ (40 : Nat) = 10 by decide), if_neg (show ¬ (40 : Nat) = 20 by decide), if_neg (show ¬ (40 : Nat) = 30 by decide), if_neg (show ¬ (20 : Nat) = 10 by decide), va_up_self, va_up_ne _ _ hne2]
      rw [el2, List.drop_left, List.take_append_drop]
    · simp only [mvA, if_true, if_neg (show ¬ (40 : Nat) = 10 by decide), if_neg (show ¬ (40 : Nat) = 20 by decide), if_neg (show ¬ (40 : Nat) = 30 by decide), if_neg (show ¬ (20 : Nat) = 10 by decide), va_up_self, va_up_ne _ _ hne]
      rw [el2, List.take_left]
    · simp only [mvA, if_true, if_neg (show ¬ (40 : Nat) = 10 by decide), if_neg (show ¬ (40 : Nat) = 20 by decide), if_neg (show ¬ (40 : Nat) = 30 by decide), if_neg (show ¬ (20 : Nat) = 10 by decide), va_up_ne _ _ h1, va_up_ne _ _ h2]
  · have h' : k ≤ (row 12).length := h
    have el : ((row 12).take k).reverse.length = k := by simp; omega
    show mvA 10 pos (mvA 30 pos row k) k = row
    refine two_ext (p := pos) ?_ ?_ (fun q h1 h2 => ?_)
    · simp only [mvA, if_true, if_neg (show ¬ (30 : Nat) = 10 by decide), if_neg (show ¬ (30 : Nat) = 20 by decide), va_up_self, va_up_ne _ _ hne2]
      exact List.drop_left' el
    · simp only [mvA, if_true, if_neg (show ¬ (30 : Nat) = 10 by decide), if_neg (show ¬ (30 : Nat) = 20 by decide), va_up_self, va_up_ne _ _ hne]
      rw [List.take_append_of_le_length (by omega), List.take_of_length_le (by omega), List.reverse_reverse, List.take_append_drop]
    · simp only [mvA, if_true, if_neg (show ¬ (30 : Nat) = 10 by decide), if_neg (show ¬ (30 : Nat) = 20 by decide), va_up_ne _ _ h1, va_up_ne _ _ h2]
  · have h' : k ≤ (row 12).length := h
    have el : ((row 12).drop ((row 12).length - k)).length = k := by simp; omega
    show mvA 20 pos (mvA 40 pos row k) k = row
    refine two_ext (p := pos) ?_ ?_ (fun q h1 h2 => ?_)
    · simp only [mvA, if_true, if_neg (show ¬ (40 : Nat) = 10 by decide), if_neg (show ¬ (40 : Nat) = 20 by decide), if_neg (show ¬ (40 : Nat) = 30 by decide), if_neg (show ¬ (20 : Nat) = 10 by decide), va_up_self, va_up_ne _ _ hne2]
      exact List.drop_left' el
    · simp only [mvA, if_true, if_neg (show ¬ (40 : Nat) = 10 by decide), if_neg (show ¬ (40 : Nat) = 20 by decide), if_neg (show ¬ (40 : Nat) = 30 by decide), if_neg (show ¬ (20 : Nat) = 10 by decide), va_up_self, va_up_ne _ _ hne]
      rw [List.take_append_of_le_length (by omega), List.take_of_length_le (l := (row 12).drop ((row 12).length - k)) (by omega), List.take_append_drop]
    · simp only [mvA, if_true, if_neg (show ¬ (40 : Nat) = 10 by decide), if_neg (show ¬ (40 : Nat) = 20 by decide), if_neg (show ¬ (40 : Nat) = 30 by decide), if_neg (show ¬ (20 : Nat) = 10 by decide), va_up_ne _ _ h1, va_up_ne _ _ h2]
theorem mv_tlen (hk : isKd kd) (ha : ang < 12) (h : k ≤ (row (srcOf kd ang)).length) : (mvA kd (posOf kd ang) row k (tgtOf kd ang)).length = k + (row (tgtOf kd ang)).length := by
  rw [(mv_perms hk ha).2.1.length_eq, List.length_append, mvd_len hk h]
end MR2
