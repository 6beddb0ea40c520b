/-! a movement can be taken back by a movement -/
section BK
variable {len siz : Nat → Nat} {ded : Nat → Bool} {n ang kd c : Nat} {row : Nat → List Nat}
theorem mvd_rev (hk : isKd kd) (ha : ang < 12) (hc : c ≤ (row (srcOf kd ang)).length) : (mvd (rv kd) ang (mvA kd (posOf kd ang) row c) c).Perm (mvd kd ang row c) := by
  obtain ⟨v1, v2, v3, v4, v5⟩ := rv_kd (ang := ang) hk
  obtain ⟨p1, p2, p3⟩ := mv_perms (row := row) (k := c) hk ha
  obtain ⟨q1, q2, q3⟩ := mv_perms (row := mvA kd (posOf kd ang) row c) (k := c) v1 ha
  have hb : mvA (rv kd) (posOf (rv kd) ang) (mvA kd (posOf kd ang) row c) c = row := by
    rw [v5]
    exact mv_back hk (posOf_lt ha) hc
  rw [hb, v3] at q1
  exact (List.perm_append_right_iff _).mp (q1.trans p2)
theorem all_perm {a b : List Nat} (h : a.Perm b) : a.all ded = b.all ded := by
  induction h with
  | nil => rfl
  | cons x _ ih => simp [ih]
  | swap x y l => simp [Bool.and_left_comm]
  | trans _ _ h1 h2 => exact h1.trans h2
theorem mvErr_rev (hk : isKd kd) (hw : wf len siz n ang row) (hc : c ≤ (row (srcOf kd ang)).length) (he : mvErr len siz ded row kd ang c = 0) : mvErr len siz ded (mvA kd (posOf kd ang) row c) (rv kd) ang c = 0 := by
  have ha := hw.2.2.2.2.2.1
  obtain ⟨v1, v2, v3, v4, v5⟩ := rv_kd (ang := ang) hk
  obtain ⟨hne, hs, ht⟩ := src_ne hk ha
  obtain ⟨p1, p2, p3⟩ := mv_perms (row := row) (k := c) hk ha
  have hp := mvd_rev hk ha hc
  unfold mvErr at he ⊢
  rw [all_perm hp, sm_perm siz hp, v4]
  have hs1 := sm_perm siz p1
  rw [sm_app] at hs1
  have hfit := hw.2.2.2.2.1 _ hs
  split at he
  · exact absurd he (by decide)
  · rename_i h1
    rw [if_neg h1, if_neg (by omega)]
end BK
