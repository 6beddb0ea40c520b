/-! the line of all the rows: 0 ends a row, l + 1 is a locomotive -/
def flt (row : Nat → List Nat) : List Nat → List Nat
  | [] => []
  | p :: ps => (row p).map (· + 1) ++ 0 :: flt row ps
def pil (row : Nat → List Nat) (i : Nat) : List Nat → Nat → (Nat → List Nat)
  | [], _ => row
  | p :: ps, s => if s ≤ (row p).length then va_up row p (insAt (row p) s i) else pil row i ps (s - ((row p).length + 1))
def cut (i : Nat) (F : List Nat) : List Nat := F.filter (fun x => decide (x ≤ i))
def slo (i : Nat) (F : List Nat) : Nat := (cut i (F.takeWhile (fun x => decide (x ≠ i + 1)))).length
/-- the digits from i on, k of them -/
def dig (F : List Nat) (m : Nat) : Nat → Nat → Nat
  | _, 0 => 0
  | i, k + 1 => dig F m (i + 1) k * (m + i) + slo i F
def shF (m : Nat) : Nat → Nat → Nat → List Nat → List Nat
  | 0, _, _, F => F
  | k + 1, i, s, F => shF m k (i + 1) (s / (m + i)) (insAt F (s % (m + i)) (i + 1))
def shR (P : List Nat) : Nat → Nat → Nat → (Nat → List Nat) → (Nat → List Nat)
  | 0, _, _, row => row
  | k + 1, i, s, row => shR P k (i + 1) (s / (P.length + i)) (pil row i P (s % (P.length + i)))
def cnt (m : Nat) : Nat → Nat
  | 0 => 1
  | k + 1 => cnt m k * (m + k)
section FL
variable {row row' : Nat → List Nat} {P : List Nat} {i s n : Nat}
theorem flt_cong (h : ∀ p ∈ P, row p = row' p) : flt row P = flt row' P := by
  induction P with
  | nil => rfl
  | cons p ps ih =>
    show (row p).map (· + 1) ++ 0 :: flt row ps = (row' p).map (· + 1) ++ 0 :: flt row' ps
    rw [h p (by simp), ih (fun q hq => h q (by simp [hq]))]
theorem pil_off {q : Nat} (hq : q ∉ P) : pil row i P s q = row q := by
  induction P generalizing s with
  | nil => rfl
  | cons p ps ih =>
    simp at hq
    unfold pil
    split
    · exact va_up_ne _ _ hq.1
    · exact ih hq.2
theorem ins_appL {A B : List Nat} {x : Nat} (h : s ≤ A.length) : insAt (A ++ B) s x = insAt A s x ++ B := by
  unfold insAt
  rw [List.take_append_of_le_length h, List.drop_append_of_le_length h]
  simp
theorem ins_appR {A B : List Nat} {x y : Nat} (h : A.length < s) : insAt (A ++ y :: B) s x = A ++ y :: insAt B (s - (A.length + 1)) x := by
  obtain ⟨t, rfl⟩ : ∃ t, s = A.length + (t + 1) := ⟨s - (A.length + 1), by omega⟩
  have e : A.length + (t + 1) - (A.length + 1) = t := by omega
  unfold insAt
  rw [e, List.take_length_add_append, List.drop_length_add_append]
  simp
theorem ins_map {A : List Nat} {x : Nat} : (insAt A s x).map (· + 1) = insAt (A.map (· + 1)) s (x + 1) := by
  simp [insAt, List.map_take, List.map_drop]
theorem flt_pil (hP : P.Nodup) (hs : s < (flt row P).length) : flt (pil row i P s) P = insAt (flt row P) s (i + 1) := by
  induction P generalizing s with
  | nil => exact absurd hs (Nat.not_lt_zero _)
  | cons p ps ih =>
    have hn := List.nodup_cons.mp hP
    have e0 : (flt row (p :: ps)).length = (row p).length + 1 + (flt row ps).length := by
      show ((row p).map (· + 1) ++ 0 :: flt row ps).length = _
      simp; omega
    rw [e0] at hs
    unfold pil
    split
    · rename_i h
      show (va_up row p (insAt (row p) s i) p).map (· + 1) ++ 0 :: flt (va_up row p (insAt (row p) s i)) ps = insAt ((row p).map (· + 1) ++ 0 :: flt row ps) s (i + 1)
      rw [va_up_self, ins_map, ins_appL (by simpa using h)]
      rw [flt_cong (row := va_up row p (insAt (row p) s i)) (row' := row) (fun q hq => va_up_ne _ _ (fun e => hn.1 (e ▸ hq)))]
    · rename_i h
      show (pil row i ps (s - ((row p).length + 1)) p).map (· + 1) ++ 0 :: flt (pil row i ps (s - ((row p).length + 1))) ps = insAt ((row p).map (· + 1) ++ 0 :: flt row ps) s (i + 1)
      rw [pil_off hn.1, ih hn.2 (by omega), ins_appR (by simp; omega)]
      simp
theorem split0 : ∀ (A A' B B' : List Nat), A.map (· + 1) ++ 0 :: B = A'.map (· + 1) ++ 0 :: B' → A = A' ∧ B = B'
  | [], [], B, B', h => by simpa using h
  | [], a :: A', B, B', h => by simp at h
  | a :: A, [], B, B', h => by simp at h
  | a :: A, a' :: A', B, B', h => by
    simp at h
    obtain ⟨e, h⟩ := h
    have := split0 A A' B B' (by simpa using h)
    exact ⟨by rw [e, this.1], this.2⟩
theorem flt_inj (h : flt row P = flt row' P) : ∀ p ∈ P, row p = row' p := by
  induction P with
  | nil => intro p hp; simp at hp
  | cons q ps ih =>
    have := split0 _ _ _ _ h
    intro p hp
    rcases List.mem_cons.mp hp with e | e
    · rw [e]; exact this.1
    · exact ih this.2 p e
theorem flt_pos : (flt row P).filter (fun x => decide (0 < x)) = (P.flatMap row).map (· + 1) := by
  induction P with
  | nil => rfl
  | cons p ps ih =>
    show ((row p).map (· + 1) ++ 0 :: flt row ps).filter (fun x => decide (0 < x)) = _
    rw [List.filter_append, List.flatMap_cons, List.map_append]
    rw [List.filter_cons_of_neg (by simp), ih]
    congr 1
    rw [List.filter_eq_self]
    intro x hx
    obtain ⟨y, -, rfl⟩ := List.mem_map.mp hx
    simp
theorem flt_mem {x : Nat} : x + 1 ∈ flt row P ↔ x ∈ P.flatMap row := by
  have : x + 1 ∈ (flt row P).filter (fun x => decide (0 < x)) ↔ x + 1 ∈ (P.flatMap row).map (· + 1) := by rw [flt_pos]
  simpa using this
theorem flt_last (hP : P ≠ []) : ∃ G, flt row P = G ++ [0] := by
  induction P with
  | nil => exact absurd rfl hP
  | cons p ps ih =>
    cases ps with
    | nil => exact ⟨(row p).map (· + 1), rfl⟩
    | cons q qs =>
      obtain ⟨G, hG⟩ := ih (by simp)
      exact ⟨(row p).map (· + 1) ++ 0 :: G, by show (row p).map (· + 1) ++ 0 :: flt row (q :: qs) = _; rw [hG]; simp⟩
/-- each locomotive stands once -/
def wfF (n : Nat) (F : List Nat) : Prop := (F.filter (fun x => decide (0 < x))).Nodup ∧ (∀ x ∈ F, x ≤ n) ∧ ∀ l, l < n → l + 1 ∈ F
theorem once {F : List Nat} (h : wfF n F) (hi : i < n) : ∃ A B, F = A ++ (i + 1) :: B ∧ i + 1 ∉ A ∧ i + 1 ∉ B := by
  obtain ⟨A, B, e⟩ := List.append_of_mem (h.2.2 i hi)
  have hn := h.1
  rw [e, List.filter_append, List.filter_cons_of_pos (by simp)] at hn
  have h1 := List.nodup_append.mp hn
  have h2 := List.nodup_cons.mp h1.2.1
  refine ⟨A, B, e, fun hA => ?_, fun hB => ?_⟩
  · exact h1.2.2 (i + 1) (by simp [hA]) (i + 1) (by simp) rfl
  · exact h2.1 (by simp [hB])
theorem slo_at {A B : List Nat} (h : i + 1 ∉ A) : slo i (A ++ (i + 1) :: B) = (cut i A).length := by
  unfold slo
  rw [List.takeWhile_append_of_pos (fun x hx => by simp; exact fun e => h (e ▸ hx)), List.takeWhile_cons_of_neg (by simp), List.append_nil]
theorem cut_no {A : List Nat} (h : i + 1 ∉ A) : cut (i + 1) A = cut i A := by
  unfold cut
  refine List.filter_congr (fun x hx => ?_)
  have : x ≠ i + 1 := fun e => h (e ▸ hx)
  simp; omega
/-- the next locomotive goes in at its slot -/
theorem cut_next {F : List Nat} (h : wfF n F) (hi : i < n) (hl : ∃ G, F = G ++ [0]) : cut (i + 1) F = insAt (cut i F) (slo i F) (i + 1) ∧ slo i F < (cut i F).length ∧ (cut (i + 1) F).length = (cut i F).length + 1 := by
  obtain ⟨A, B, e, hA, hB⟩ := once h hi
  have hB0 : 0 ∈ B := by
    obtain ⟨G, hG⟩ := hl
    rcases List.eq_nil_or_concat B with z | ⟨B', x, z⟩
    · subst z
      rw [hG] at e
      have := congrArg List.getLast? e
      simp at this
    · have z' : B = B' ++ [x] := by simpa using z
      rw [z', hG] at e
      have e2 : G ++ [0] = (A ++ (i + 1) :: B') ++ [x] := by rw [e]; simp
      have := (List.append_inj' e2 rfl).2
      simp at this
      rw [z', ← this]; simp
  have c1 : cut i F = cut i A ++ cut i B := by
    rw [e]; unfold cut
    rw [List.filter_append, List.filter_cons_of_neg (by simp)]
  have c2 : cut (i + 1) F = cut i A ++ (i + 1) :: cut i B := by
    rw [← cut_no hA, ← cut_no hB, e]; unfold cut
    rw [List.filter_append, List.filter_cons_of_pos (by simp)]
  have c3 : slo i F = (cut i A).length := by rw [e]; exact slo_at hA
  have c4 : 0 < (cut i B).length := List.length_pos_of_mem (a := 0) (by unfold cut; simp [hB0])
  refine ⟨?_, ?_, ?_⟩
  · rw [c1, c2, c3, mid_ins]
  · rw [c1, c3]; simp; exact c4
  · rw [c1, c2]; simp; omega
end FL
