/-! digits and ranks: the reference's numbers -/
def dl (b : Nat) : Nat → Nat → List Nat
  | 0, _ => []
  | k + 1, c => c % b :: dl b k (c / b)
def cdg (b : Nat) : List Nat → Nat
  | [] => 0
  | x :: xs => x + b * cdg b xs
section DG
variable {b : Nat}
theorem dl_len : ∀ k c, (dl b k c).length = k
  | 0, _ => rfl
  | k + 1, c => by show (dl b k (c / b)).length + 1 = _; rw [dl_len k]
theorem dl_lt (hb : 0 < b) : ∀ k c, ∀ x ∈ dl b k c, x < b
  | 0, _, x, h => by simp [dl] at h
  | k + 1, c, x, h => by
    rcases List.mem_cons.mp h with z | z
    · rw [z]; exact Nat.mod_lt _ hb
    · exact dl_lt hb k _ x z
theorem dl_get : ∀ k c j x, (dl b k c)[j]? = some x → x = c / b ^ j % b
  | 0, _, j, x, h => by simp [dl] at h
  | k + 1, c, 0, x, h => by
    have : c % b = x := by simpa [dl] using h
    rw [← this]; simp
  | k + 1, c, j + 1, x, h => by
    have : (dl b k (c / b))[j]? = some x := by simpa [dl] using h
    rw [dl_get k _ j x this, Nat.div_div_eq_div_mul, Nat.pow_succ, Nat.mul_comm b]
theorem dl_cdg : ∀ C : List Nat, (∀ x ∈ C, x < b) → dl b C.length (cdg b C) = C
  | [], _ => rfl
  | x :: xs, h => by
    have hx := h x (by simp)
    show (x + b * cdg b xs) % b :: dl b xs.length ((x + b * cdg b xs) / b) = _
    rw [Nat.add_mul_mod_self_left, Nat.mod_eq_of_lt hx, Nat.add_mul_div_left _ _ (by omega), Nat.div_eq_of_lt hx, Nat.zero_add, dl_cdg xs (fun y hy => h y (by simp [hy]))]
theorem cdg_dl (hb : 0 < b) : ∀ k c, c < b ^ k → cdg b (dl b k c) = c
  | 0, c, h => by simp at h; rw [h]; rfl
  | k + 1, c, h => by
    show c % b + b * cdg b (dl b k (c / b)) = c
    rw [cdg_dl hb k (c / b) (Nat.div_lt_of_lt_mul (by rw [Nat.mul_comm, ← Nat.pow_succ]; exact h))]
    exact Nat.mod_add_div c b
theorem cdg_lt : ∀ C : List Nat, (∀ x ∈ C, x < b) → cdg b C < b ^ C.length
  | [], _ => by simp [cdg]
  | x :: xs, h => by
    have hx := h x (by simp)
    have ih := cdg_lt xs (fun y hy => h y (by simp [hy]))
    show x + b * cdg b xs < b ^ (xs.length + 1)
    have : b * (cdg b xs + 1) ≤ b * b ^ xs.length := Nat.mul_le_mul_left b ih
    rw [Nat.pow_succ, Nat.mul_comm (b ^ xs.length), ]
    rw [Nat.mul_add] at this
    omega
theorem cdg_snoc : ∀ (C : List Nat) (x : Nat), cdg b (C ++ [x]) = cdg b C + b ^ C.length * x
  | [], x => by simp [cdg]
  | y :: ys, x => by
    show y + b * cdg b (ys ++ [x]) = y + b * cdg b ys + b ^ (ys.length + 1) * x
    rw [cdg_snoc ys x, Nat.mul_add, Nat.pow_succ, Nat.mul_comm (b ^ ys.length) b, Nat.mul_assoc]
    omega
theorem cdg_inj {C D : List Nat} (hC : ∀ x ∈ C, x < b) (hD : ∀ x ∈ D, x < b) (hl : C.length = D.length) (e : cdg b C = cdg b D) : C = D := by
  rw [← dl_cdg C hC, ← dl_cdg D hD, e, hl]
end DG
def sn : Nat → Nat → Nat → Nat
  | 0, _, s => s
  | k + 1, c, s => sn k (c / 4) (s ||| 2 ^ (c % 4))
def vo (n c : Nat) : Bool := sn n c 0 == 2 ^ n - 1
def su : Nat → Nat → Nat → Nat
  | 0, _, s => s
  | k + 1, c, s => su k (c / 5) (s + c % 5)
def vw (n c : Nat) : Bool := su 6 c 0 == n
def okC (n : Nat) (C : List Nat) : Bool := ndp C && C.all (fun x => decide (x < n)) && (List.range n).all (fun l => C.contains l)
theorem vo_dec : (List.range 4).all (fun n => (List.range (4 ^ n)).all (fun c => vo n c == okC n (dl 4 n c))) = true := by decide +kernel
theorem vo_bound : ∀ n, n < 4 → fb_ct (vo n) (4 ^ n) ≤ 6 := by decide +kernel
def ct2 (f : Nat → Bool) (B : Nat) : Nat → Nat
  | 0 => 0
  | a + 1 => ct2 f B a + fb_ct (fun k => f (a * B + k)) B
theorem ct2_eq (f : Nat → Bool) (B : Nat) : ∀ A, fb_ct f (A * B) = ct2 f B A
  | 0 => by simp [ct2, fb_ct]
  | A + 1 => by
    rw [Nat.succ_mul, fb_ct_split, ct2_eq f B A]
    rfl
theorem vw_bound2 : ∀ n, n < 4 → ct2 (vw n) 125 125 ≤ 56 := by decide +kernel
theorem vw_bound {n : Nat} (h : n ≤ 3) : fb_ct (vw n) 15625 ≤ 56 := by
  have := ct2_eq (vw n) 125 125
  rw [show 125 * 125 = 15625 from rfl] at this
  rw [this]
  exact vw_bound2 n (by omega)
theorem ct_lt {f : Nat → Bool} {c N : Nat} (h : f c = true) (hc : c < N) : fb_ct f c < fb_ct f N := by
  have := fb_ct_mono f (m := c + 1) (n := N) hc
  rw [fb_ct_succ, if_pos h] at this
  omega
theorem ndp_iff : ∀ xs : List Nat, ndp xs = true ↔ xs.Nodup
  | [] => by simp [ndp]
  | x :: xs => by
    rw [List.nodup_cons, ← ndp_iff xs]
    simp [ndp]
theorem okC_iff {n : Nat} {C : List Nat} : okC n C = true ↔ C.Nodup ∧ (∀ x ∈ C, x < n) ∧ ∀ l, l < n → l ∈ C := by
  unfold okC
  rw [Bool.and_eq_true, Bool.and_eq_true, ndp_iff]
  simp [and_assoc]
theorem vo_iff {n c : Nat} (hn : n ≤ 3) (hc : c < 4 ^ n) : vo n c = true ↔ (dl 4 n c).Nodup ∧ (∀ x ∈ dl 4 n c, x < n) ∧ ∀ l, l < n → l ∈ dl 4 n c := by
  have := vo_dec
  rw [List.all_eq_true] at this
  have := this n (by simp; omega)
  rw [List.all_eq_true] at this
  have := this c (by simpa using hc)
  rw [beq_iff_eq] at this
  rw [this, okC_iff]
theorem su_sum : ∀ k c s, su k c s = s + (dl 5 k c).sum
  | 0, _, _ => by simp [su, dl]
  | k + 1, c, s => by
    show su k (c / 5) (s + c % 5) = s + (c % 5 :: dl 5 k (c / 5)).sum
    rw [su_sum k, List.sum_cons]
    omega
theorem vw_iff {n c : Nat} : vw n c = true ↔ (dl 5 6 c).sum = n := by
  unfold vw
  rw [beq_iff_eq, su_sum, Nat.zero_add]
