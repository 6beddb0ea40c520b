/-! the yard's rows as lists -/
def sm (siz : Nat → Nat) : List Nat → Nat
  | [] => 0
  | l :: r => siz l + sm siz r
theorem sm_app (siz : Nat → Nat) : ∀ a b : List Nat, sm siz (a ++ b) = sm siz a + sm siz b
  | [], b => by simp [sm]
  | l :: a, b => by
    show siz l + sm siz (a ++ b) = siz l + sm siz a + sm siz b
    rw [sm_app siz a b]
    omega
theorem sm_rev (siz : Nat → Nat) : ∀ a : List Nat, sm siz a.reverse = sm siz a
  | [] => rfl
  | l :: a => by
    rw [List.reverse_cons, sm_app, sm_rev siz a]
    show sm siz a + (siz l + 0) = siz l + sm siz a
    omega
def insAt (xs : List Nat) (i l : Nat) : List Nat := xs.take i ++ l :: xs.drop i
def eraAt (xs : List Nat) (i : Nat) : List Nat := xs.take i ++ xs.drop (i + 1)
theorem split_at {xs : List Nat} {i l : Nat} (h : xs[i]? = some l) : xs.take i ++ l :: xs.drop (i + 1) = xs := by
  have hl := (List.getElem?_eq_some_iff.mp h).1
  have e : xs.drop i = l :: xs.drop (i + 1) := by
    rw [List.drop_eq_getElem_cons hl]
    congr 1
    exact (List.getElem?_eq_some_iff.mp h).2
  rw [← e, List.take_append_drop]
theorem sm_ins (siz : Nat → Nat) (xs : List Nat) (i l : Nat) : sm siz (insAt xs i l) = sm siz xs + siz l := by
  unfold insAt
  rw [sm_app]
  have h := congrArg (sm siz) (List.take_append_drop i xs)
  rw [sm_app] at h
  show sm siz (xs.take i) + (siz l + sm siz (xs.drop i)) = _
  omega
theorem sm_era (siz : Nat → Nat) {xs : List Nat} {i l : Nat} (h : xs[i]? = some l) : sm siz xs = sm siz (eraAt xs i) + siz l := by
  have h2 := congrArg (sm siz) (split_at h)
  rw [sm_app] at h2
  unfold eraAt
  rw [sm_app, ← h2]
  show sm siz (xs.take i) + (siz l + sm siz (xs.drop (i + 1))) = _
  omega
theorem ins_len (xs : List Nat) {i : Nat} (l : Nat) (h : i ≤ xs.length) : (insAt xs i l).length = xs.length + 1 := by
  unfold insAt
  simp
  omega
theorem era_len {xs : List Nat} {i : Nat} (h : i < xs.length) : (eraAt xs i).length = xs.length - 1 := by
  unfold eraAt
  simp
  omega
theorem ins_get {xs : List Nat} {i : Nat} (l : Nat) (h : i ≤ xs.length) (j : Nat) : (insAt xs i l)[j]? = if j < i then xs[j]? else if j = i then some l else xs[j - 1]? := by
  unfold insAt
  by_cases h1 : j < i
  · rw [if_pos h1, List.getElem?_append_left (by simp; omega), List.getElem?_take_of_lt h1]
  · rw [if_neg h1, List.getElem?_append_right (by simp; omega)]
    have hl : (xs.take i).length = i := by simp; omega
    rw [hl]
    by_cases h2 : j = i
    · subst h2; simp
    · rw [if_neg h2, show j - i = (j - i - 1) + 1 by omega, List.getElem?_cons_succ, List.getElem?_drop]
      congr 1
      omega
theorem era_get {xs : List Nat} {i : Nat} (h : i < xs.length) (j : Nat) : (eraAt xs i)[j]? = if j < i then xs[j]? else xs[j + 1]? := by
  unfold eraAt
  by_cases h1 : j < i
  · rw [if_pos h1, List.getElem?_append_left (by simp; omega), List.getElem?_take_of_lt h1]
  · rw [if_neg h1, List.getElem?_append_right (by simp; omega)]
    have hl : (xs.take i).length = i := by simp; omega
    rw [hl, List.getElem?_drop]
    congr 1
    omega
/-- the memory's rows are these lists -/
def yB (siz : Nat → Nat) (row : Nat → List Nat) (m : Mu) : Prop := ∀ p, p < 13 → m 2 p = nI (row p).length ∧ m 1 p = nI (sm siz (row p)) ∧ (row p).length ≤ 8 ∧ ∀ (i l : Nat), (row p)[i]? = some l → m 3 (8 * p + i) = nI l ∧ l < 8 ∧ m 4 l = nI (siz l)
section YB
variable {m : Mu} {siz : Nat → Nat} {row : Nat → List Nat} {p : Nat}
theorem t_take {i l : Nat} {K : Int32 → Mu → Prop} (hB : yB siz row m) (hp : p < 13) (hl : (row p)[i]? = some l) (h : ∀ m', yB siz (va_up row p (eraAt (row p) i)) m' → y_same m m' → K (nI l) m') : wX3_takeOut (nI p) (nI i) m K := by
  obtain ⟨h1, h2, h3, h4⟩ := hB p hp
  have hi := (List.getElem?_eq_some_iff.mp hl).1
  obtain ⟨g1, g2, g3⟩ := h4 i l hl
  refine t_takeOut hp h1 h3 hi g1 g2 (fun m' e2 e1 e3 hs => h m' ?_ hs)
  intro q hq
  by_cases hqp : q = p
  · subst hqp
    rw [va_up_self]
    refine ⟨?_, ?_, ?_, fun j x hx => ?_⟩
    · rw [e2, pu_u, era_len hi]
    · rw [e1, pu_u, h2, g3, sm_era siz hl, pk_sub (Nat.le_add_left _ _), Nat.add_sub_cancel]
    · rw [era_len hi]; omega
    · rw [era_get hi] at hx
      rw [hs 4 (by decide) (by decide) (by decide), e3]
      unfold sh_d
      by_cases hj : j < i
      · rw [if_pos hj] at hx
        rw [if_neg (by omega)]
        exact h4 j x hx
      · rw [if_neg hj] at hx
        have hj2 := (List.getElem?_eq_some_iff.mp hx).1
        rw [if_pos (by omega)]
        exact h4 (j + 1) x hx
  · rw [va_up_ne _ _ hqp]
    obtain ⟨k1, k2, k3, k4⟩ := hB q hq
    refine ⟨?_, ?_, k3, fun j x hx => ?_⟩
    · rw [e2, pu_un _ _ hqp]; exact k1
    · rw [e1, pu_un _ _ hqp]; exact k2
    · have hj := (List.getElem?_eq_some_iff.mp hx).1
      rw [hs 4 (by decide) (by decide) (by decide), e3]
      unfold sh_d
      rw [if_neg (by omega)]
      exact k4 j x hx
theorem t_put {i l : Nat} {K : Mu → Prop} (hB : yB siz row m) (hp : p < 13) (hi : i ≤ (row p).length) (hlen : (row p).length < 8) (hl : l < 8) (hsz : m 4 l = nI (siz l)) (h : ∀ m', yB siz (va_up row p (insAt (row p) i l)) m' → y_same m m' → K m') : wX3_putIn (nI p) (nI i) (nI l) m K := by
  obtain ⟨h1, h2, h3, h4⟩ := hB p hp
  refine t_putIn hp h1 hlen hi hl (fun m' e2 e1 e3 hs => h m' ?_ hs)
  intro q hq
  by_cases hqp : q = p
  · subst hqp
    rw [va_up_self]
    refine ⟨?_, ?_, ?_, fun j x hx => ?_⟩
    · rw [e2, pu_u, ins_len _ _ hi]
    · rw [e1, pu_u, h2, hsz, sm_ins, nI_add]
    · rw [ins_len _ _ hi]; omega
    · rw [ins_get _ hi] at hx
      rw [hs 4 (by decide) (by decide) (by decide), e3]
      unfold upd sh_u
      by_cases hj : j < i
      · rw [if_pos hj] at hx
        rw [if_neg (by omega), if_neg (by omega)]
        exact h4 j x hx
      · rw [if_neg hj] at hx
        by_cases hj2 : j = i
        · rw [if_pos hj2] at hx
          cases hx
          rw [if_pos (by omega)]
          exact ⟨rfl, hl, hsz⟩
        · rw [if_neg hj2] at hx
          have hj3 := (List.getElem?_eq_some_iff.mp hx).1
          rw [if_neg (by omega), if_pos (by omega), show 8 * q + j - 1 = 8 * q + (j - 1) by omega]
          exact h4 (j - 1) x hx
  · rw [va_up_ne _ _ hqp]
    obtain ⟨k1, k2, k3, k4⟩ := hB q hq
    refine ⟨?_, ?_, k3, fun j x hx => ?_⟩
    · rw [e2, pu_un _ _ hqp]; exact k1
    · rw [e1, pu_un _ _ hqp]; exact k2
    · have hj := (List.getElem?_eq_some_iff.mp hx).1
      rw [hs 4 (by decide) (by decide) (by decide), e3]
      unfold upd sh_u
      rw [if_neg (by omega), if_neg (by omega)]
      exact k4 j x hx
end YB
/-- k locomotives moved: kinds 10, 20 (in at A, B), 30, 40 (out at A, B) at the position -/
def mvA (kd pos : Nat) (row : Nat → List Nat) (k : Nat) : Nat → List Nat :=
  if kd = 10 then va_up (va_up row pos ((row pos).drop k)) 12 (((row pos).take k).reverse ++ row 12)
  else if kd = 20 then va_up (va_up row pos ((row pos).drop k)) 12 (row 12 ++ (row pos).take k)
  else if kd = 30 then va_up (va_up row 12 ((row 12).drop k)) pos (((row 12).take k).reverse ++ row pos)
  else va_up (va_up row 12 ((row 12).take ((row 12).length - k))) pos ((row 12).drop ((row 12).length - k) ++ row pos)
theorem up_up {α : Type} (f : Nat → α) (k : Nat) (v w : α) : va_up (va_up f k v) k w = va_up f k w := by
  funext j
  unfold va_up
  by_cases h : j = k
  · rw [if_pos h, if_pos h]
  · rw [if_neg h, if_neg h, if_neg h]
theorem up_comm {α : Type} (f : Nat → α) {i j : Nat} (h : i ≠ j) (v w : α) : va_up (va_up f i v) j w = va_up (va_up f j w) i v := by
  funext q
  unfold va_up
  by_cases h1 : q = i
  · subst h1; simp [h]
  · by_cases h2 : q = j
    · subst h2; simp [h1]
    · simp [h1, h2]
theorem up_id {α : Type} (f : Nat → α) (k : Nat) {v : α} (h : f k = v) : va_up f k v = f := by
  funext j
  unfold va_up
  by_cases h1 : j = k
  · rw [if_pos h1, h1, h]
  · rw [if_neg h1]
theorem ins0 (xs : List Nat) (l : Nat) : insAt xs 0 l = l :: xs := by simp [insAt]
theorem insEnd (xs : List Nat) (l : Nat) : insAt xs xs.length l = xs ++ [l] := by simp [insAt]
theorem era0 (xs : List Nat) : eraAt xs 0 = xs.drop 1 := by simp [eraAt]
theorem mvA0 {kd pos : Nat} (row : Nat → List Nat) (hpos : pos < 12) : mvA kd pos row 0 = row := by
  unfold mvA
  split
  · simp [up_id]
  · split
    · simp [up_id]
    · split
      · simp [up_id]
      · simp [up_id]
