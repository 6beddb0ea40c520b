/-! PURE LAYER. What the yard's reads answer. -/
theorem pu_same (m : Mu) (a : Nat) (f : Nat → Int32) : mu_set m a f a = f := by
  simp [mu_set]
theorem pu_ne (m : Mu) {a b : Nat} (f : Nat → Int32) (h : b ≠ a) : mu_set m a f b = m b := by
  unfold mu_set
  cases hb : Nat.beq b a with
  | false => rfl
  | true => exact absurd (Nat.eq_of_beq_eq_true hb) h
theorem pu_up (m : Mu) (a i : Nat) (x : Int32) : mu_up m a i x a = upd (m a) i x := pu_same m a _
theorem pu_upn (m : Mu) {a b : Nat} (i : Nat) (x : Int32) (h : b ≠ a) : mu_up m a i x b = m b := pu_ne m _ h
theorem pu_u (f : Nat → Int32) (i : Nat) (x : Int32) : upd f i x i = x := by simp [upd]
theorem pu_un (f : Nat → Int32) {i j : Nat} (x : Int32) (h : j ≠ i) : upd f i x j = f j := by simp [upd, h]
/-- an index test against a literal: below -/
theorem ix_lo {A B : Prop} {j n : Nat} (h : j < n) (hn : n < 2 ^ 31) (b : B) : (nI j < 0 → A) ∧ (¬ nI j < 0 → ((nI n ≤ nI j → A) ∧ (¬ nI n ≤ nI j → B))) :=
  ⟨fun c => absurd c (nI_pos (by omega)), fun _ => ⟨fun c => absurd c (nI_ge h hn), fun _ => b⟩⟩
section YR
variable {m : Mu} {K : Int32 → Prop} {p : Nat}
theorem t_lengthAt (hp : p < 13) (h : K (m 0 p)) : wX3_lengthAt (nI p) m K := ix_lo hp (by decide) ⟨vp_in_nI hp (by decide), by rw [nI_clamp (by omega)]; exact h⟩
theorem t_usedAt (hp : p < 13) (h : K (m 1 p)) : wX3_usedAt (nI p) m K := ix_lo hp (by decide) ⟨vp_in_nI hp (by decide), by rw [nI_clamp (by omega)]; exact h⟩
theorem t_countAt (hp : p < 13) (h : K (m 2 p)) : wX3_countAt (nI p) m K := ix_lo hp (by decide) ⟨vp_in_nI hp (by decide), by rw [nI_clamp (by omega)]; exact h⟩
theorem t_freeAt (hp : p < 13) (h : K (m 0 p - m 1 p)) : wX3_freeAt (nI p) m K := t_lengthAt hp (t_usedAt hp h)
theorem t_sizeOf {l : Nat} (hl : l < 8) (h : K (m 4 l)) : wX3_sizeOf (nI l) m K := ix_lo hl (by decide) ⟨vp_in_nI hl (by decide), by rw [nI_clamp (by omega)]; exact h⟩
theorem t_locAt {i c : Nat} (hp : p < 13) (hc : m 2 p = nI c) (hc8 : c ≤ 8) (hi : i < c) (h : K (m 3 (8 * p + i))) : wX3_locomotiveAt (nI p) (nI i) m K := by
  refine ix_lo hp (by decide) ⟨fun c => absurd c (nI_pos (by omega)), fun _ => ⟨vp_in_nI hp (by decide), ?_⟩⟩
  rw [nI_clamp (by omega), hc]
  refine ⟨fun q => absurd q (nI_ge hi (by omega)), fun _ => ⟨fun _ => ?_, fun q => absurd (nI_lt (a := i) (b := 8) (by omega) (by decide)) q⟩⟩
  have e : nI p * (8 : Int32) + nI i = nI (8 * p + i) := by
    rw [show (8 : Int32) = nI 8 from rfl, pk_mul, nI_add, Nat.mul_comm]
  rw [e, nI_clamp (by omega)]
  exact ⟨vp_in_nI (by omega) (by decide), h⟩
theorem t_locAt_out {i c : Nat} (hp : p < 13) (hc : m 2 p = nI c) (hc8 : c ≤ 8) (hi : c ≤ i) (hi2 : i < 2 ^ 31) (h : K (-11)) : wX3_locomotiveAt (nI p) (nI i) m K := by
  refine ix_lo hp (by decide) ⟨fun c => absurd c (nI_pos (by omega)), fun _ => ⟨vp_in_nI hp (by decide), ?_⟩⟩
  rw [nI_clamp (by omega), hc]
  exact ⟨fun _ => h, fun q => absurd (nI_le hi hi2) q⟩
theorem t_locAt_neg {x : Int32} (hp : p < 13) (hx : x < 0) (h : K (-11)) : wX3_locomotiveAt (nI p) x m K :=
  ix_lo hp (by decide) ⟨fun _ => h, fun c => absurd hx c⟩
theorem t_isLoc {n l : Nat} (hn : m 8 5 = nI n) (hn8 : n ≤ 8) (hl : l < n) (h : K 1) : wX3_isLocomotive (nI l) m K := by
  unfold wX3_isLocomotive
  rw [hn]
  exact ⟨fun c => absurd c (nI_pos (by omega)), fun _ => ⟨fun c => absurd c (nI_ge hl (by omega)), fun _ => ⟨fun c => absurd c (nI_ge (b := 8) (by omega) (by decide)), fun _ => h⟩⟩⟩
theorem t_isLoc_no {n : Nat} {x : Int32} (hn : m 8 5 = nI n) (hx : x < 0 ∨ nI n ≤ x) (h : K 0) : wX3_isLocomotive x m K := by
  unfold wX3_isLocomotive
  rw [hn]
  rcases hx with hx | hx
  · exact ⟨fun _ => h, fun c => absurd hx c⟩
  · exact ⟨fun _ => h, fun _ => ⟨fun _ => h, fun c => absurd hx c⟩⟩
theorem bit_at : ∀ D, D < 256 → ∀ l, l < 8 → ((((nI D) >>> (nI l &&& 31)) &&& (1 : Int32)) = 0 ↔ D.testBit l = false) := by decide +kernel
theorem bit_off : ∀ D, D < 256 → ∀ l, l < 8 → (nI D) &&& (((1 : Int32) <<< (nI l &&& 31)) ^^^ (-1 : Int32)) = nI (D - if D.testBit l then 2 ^ l else 0) := by decide +kernel
theorem bit_on : ∀ D, D < 256 → ∀ l, l < 8 → (nI D) ||| ((1 : Int32) <<< (nI l &&& 31)) = nI (D ||| 2 ^ l) := by decide +kernel
theorem bit_off_t : ∀ D, D < 256 → ∀ l, l < 8 → ∀ k, k < 8 → (D - if D.testBit l then 2 ^ l else 0).testBit k = (D.testBit k && !(k == l)) := by decide +kernel
theorem bit_on_t : ∀ D, D < 256 → ∀ l, l < 8 → ∀ k, k < 8 → (D ||| 2 ^ l).testBit k = (D.testBit k || k == l) := by decide +kernel
theorem bit_on_lt : ∀ D, D < 256 → ∀ l, l < 8 → D ||| 2 ^ l < 256 := by decide +kernel
theorem t_isAlive {n l D : Nat} (hn : m 8 5 = nI n) (hn8 : n ≤ 8) (hD : m 8 6 = nI D) (hD8 : D < 256) (hl : l < n) (h : K (if D.testBit l then 0 else 1)) : wX3_isAlive (nI l) m K := by
  refine t_isLoc hn hn8 hl ?_
  refine ⟨fun c => absurd c (by decide), fun _ => ?_⟩
  rw [hD]
  have hb := bit_at D hD8 l (by omega)
  cases ht : D.testBit l with
  | false =>
    rw [ht] at h hb
    exact ⟨fun _ => h, fun c => absurd (hb.mpr rfl) c⟩
  | true =>
    rw [ht] at h hb
    exact ⟨fun c => absurd (hb.mp c) (by decide), fun _ => h⟩
theorem t_posA (h : K (m 8 7)) : wX3_positionAt 0 m K := ⟨fun _ => h, fun c => absurd rfl c⟩
theorem t_posB {a : Nat} (ha : m 8 7 = nI a) (ha12 : a < 12) (h : K (nI ((a + 6) % 12))) : wX3_positionAt 1 m K := by
  refine ⟨fun c => absurd c (by decide), fun _ => ?_⟩
  have e : am_rem (m 8 7 + 6) 12 = nI ((a + 6) % 12) := by
    unfold am_rem
    rw [ha, show (6 : Int32) = nI 6 from rfl, show (12 : Int32) = nI 12 from rfl, nI_add, pk_rem (by omega) (by decide) (by decide)]
  rw [e]
  exact h
end YR
