/-! the law's world: the house's places, then the reference's -/
theorem am_ix_sfx {a n j : Nat} (h : j < n) : am_ix (List.range' a n) j = a + j := by
  unfold am_ix
  rw [List.getD_eq_getElem?_getD, List.getElem?_range' h]
  simp
theorem am_nd_range' (a n : Nat) : va_nd (List.range' a n) = true := by
  have key : ∀ (l : List Nat), l.Nodup → va_nd l = true := by
    intro l
    induction l with
    | nil => intro _; rfl
    | cons a l ih =>
      intro h
      have h1 := List.nodup_cons.mp h
      have h2 := ih h1.2
      simp [va_nd, h2, h1.1]
  exact key _ List.nodup_range'
theorem am_sub_sfx {a : Nat} (A hc : am_H) (hA : A.length = a) : (List.range' a hc.length).map (fun i => (A ++ hc.map (Option.map (am_rn (List.range' a hc.length))))[i]?) = hc.map (fun o => some (o.map (am_rn (List.range' a hc.length)))) := by
  apply List.ext_getElem?
  intro i
  rw [List.getElem?_map, List.getElem?_map]
  by_cases hi : i < hc.length
  · rw [List.getElem?_range' hi, List.getElem?_eq_getElem hi]
    simp only [Option.map_some, Nat.one_mul]
    rw [List.getElem?_append_right (by omega), List.getElem?_map, show a + i - A.length = i by omega, List.getElem?_eq_getElem hi]
    rfl
  · rw [List.getElem?_eq_none (by simpa using Nat.not_lt.mp hi), List.getElem?_eq_none (Nat.not_lt.mp hi)]
    rfl
theorem am_put_sfx {a n : Nat} {os g : am_H} (A : am_H) (hA : A.length = a) (h1 : os.length = n) (h2 : g.length = n) : am_put (List.range' a n) os (A ++ g) = A ++ os := by
  apply List.ext_getElem?
  intro i
  by_cases hi : i < a
  · rw [am_put_out _ _ _ i (fun z => by have := List.mem_range'_1.mp z; omega), List.getElem?_append_left (by omega), List.getElem?_append_left (by omega)]
  · by_cases hi2 : i < a + n
    · have ho : os[i - a]? = some os[i - a] := List.getElem?_eq_getElem (by omega)
      rw [List.getElem?_append_right (by omega), hA, ho]
      refine am_put_in (List.range' a n) os (A ++ g) (va_nd_inj _ (am_nd_range' a n)) (i - a) i _ ?_ ho (by rw [List.length_append]; omega)
      rw [List.getElem?_range' (by omega)]
      congr 1
      omega
    · rw [am_put_out _ _ _ i (fun z => by have := List.mem_range'_1.mp z; omega), List.getElem?_append_right (by omega), List.getElem?_append_right (by omega), List.getElem?_eq_none (by omega), List.getElem?_eq_none (by omega)]
def gM (k : Mu) : am_H := (fX5 k).map (Option.map (am_rn (List.range' 38 23)))
def fL (hp s0 s1 : Bool) (m : HM) (k : Mu) : am_H := fX4 hp s0 s1 m ++ gM k
theorem gM_len (k : Mu) : (gM k).length = 23 := rfl
theorem gM_nh (k : Mu) : ((List.range 38).all fun i => am_nh i (gM k)) = true := rfl
theorem gM_ok (k : Mu) : am_okh 61 (gM k) = true := rfl
theorem am_nh_app (i : Nat) (a b : am_H) : am_nh i (a ++ b) = (am_nh i a && am_nh i b) := by unfold am_nh; rw [List.all_append]
def lwLs (i : Int32) : List (Option Value) := [some (.ref 1000), some (.ref 0), some (.ref 38), some (.int i)]
theorem lwLs_n {k : Nat} (h1 : 1 ≤ k) (h2 : k < 38) (i : Int32) : am_nl k (lwLs i) = true := by
  have key : ∀ a, a ≠ k → Nat.beq a k = false := by
    intro a ha
    cases hb : Nat.beq a k with
    | false => rfl
    | true => exact absurd (Nat.eq_of_beq_eq_true hb) ha
  simp [lwLs, am_nl, am_nv, key 1000 (by omega), key 0 (by omega), key 38 (by omega)]
theorem fL_fr (hp s0 s1 : Bool) (m : HM) (k : Mu) (i : Int32) : am_fr (List.range 38) (fX4 hp s0 s1 m) (fX4 hp s0 s1 m ++ gM k) (lwLs i) [] = true := by
  refine am_fr_of _ _ _ _ _ (fun q j hj hq => ?_)
  have hlt : q < 38 := by have := (List.getElem?_eq_some_iff.mp hj).1; simpa using this
  rw [List.getElem?_range hlt] at hj
  cases hj
  have h1 := List.all_eq_true.mp (f4_none hp s0 s1 m) q (List.mem_range.mpr hlt)
  rw [hq] at h1
  simp only [Bool.and_eq_true] at h1
  have h2 := List.all_eq_true.mp (gM_nh k) q (List.mem_range.mpr hlt)
  refine ⟨by rw [am_nh_app, h1.1]; exact h2, lwLs_n ?_ hlt i, rfl⟩
  have h3 : am_pres hp s0 s1 q = false := by simpa using h1.2
  rcases Nat.eq_zero_or_pos q with h0 | h0
  · subst h0
    exact absurd h3 (by show ¬ (true || _) = false; simp)
  · exact h0
section AML
variable {sc : Option (Nat × (Nat → Int32))} {Z : Option Value → am_H → Prop} {M' : am_M} {nc ns pc idx n n1 s1' : Nat} {st0 As : List Value} {hp s0 s1 : Bool} {m : HM} {k : Mu} {i : Int32}
theorem am_less {M : am_M} {nc' ns' : Nat} {ls : List (Option Value)} {st : List Value} {h : am_H} (h1 : nc' ≤ nc) (h2 : ns' ≤ ns) (kk : am_Ok M sc Z nc' ns' pc ls st h) : am_Ok M sc Z nc ns pc ls st h := by
  intro p l e R s mm args below meth c Q D cy A r0 P0 N0 X hR r H locs cells slots lc hZ hS hL hE hN
  exact kk p l e R s mm args below meth c Q D cy A r0 P0 N0 X hR r H locs cells slots lc hZ hS hL hE ⟨by omega, by omega⟩
theorem am_ints_id (is : List Nat) : ∀ {As : List Value}, (As.all fun v => match v with | .int _ => true | _ => false) = true → As.map (am_v (am_ix is)) = As
  | [], _ => rfl
  | v :: As, h => by
    simp only [List.all_cons, Bool.and_eq_true] at h
    rw [List.map_cons, am_ints_id is h.2]
    cases v <;> first | rfl | exact absurd h.1 (by simp)
/-- a call on the house -/
theorem am_lawH {Zc : Option Value → am_H → Prop} (hd : decode mL_law.2.1 pc = .ok (.invokevirtual idx, 3)) (q : am_qV mL_law idx M' n) (hcl : vwCl[4]? = some (M'.1.cls, TX4, 5)) (hM : am_Met M' (.ref 0 :: As) (fX4 hp s0 s1 m) n1 s1' Zc) (hint : (As.all fun v => match v with | .int _ => true | _ => false) = true) (hAs : As.length = n) (hst0 : As.reverse ++ [.ref 0] = st0) (hn : n1 ≤ nc ∧ s1' ≤ ns)
    (hok : ∀ v h1, Zc v h1 → am_okh 38 h1 = true ∧ ∀ w, v = some w → am_okv 38 w = true)
    (kk : ∀ v h1, Zc v h1 → am_Ok mL_law sc Z (nc - n1) (ns - s1') (pc + 3) (lwLs i) v.toList (h1 ++ gM k)) : am_Ok mL_law sc Z nc ns pc (lwLs i) st0 (fL hp s0 s1 m k) := by
  obtain ⟨q1, q2, q3, q4⟩ := q
  refine am_callV (is := List.range 38) (n1 := n1) (s1 := s1') (st := []) (b := 0) (As := As) hd q1 q2 q3 q4 hcl hM rfl ?_ hAs hst0 (Nat.zero_le _) (am_sub_pre (fX4 hp s0 s1 m) (gM k)) (am_nd_range 38) (by unfold fL; rw [List.length_append, f4_len, gM_len]; decide) (by rw [List.length_range]; decide) (fL_fr hp s0 s1 m k i) hn (by rw [f4_len]; exact hok) (fun v h1 hz hl1 => ?_)
  · rw [List.map_cons, am_ints_id _ hint]; rfl
  · have h2 := kk v h1 hz
    rw [am_tail, am_map_rn_range]
    unfold fL
    rw [am_put_pre (gM k) (by rw [hl1, f4_len]) (f4_len hp s0 s1 m), List.append_nil]
    exact h2
/-- a call on the reference -/
theorem am_lawM {Zc : Option Value → am_H → Prop} {x : Int32} (hd : decode mL_law.2.1 pc = .ok (.invokevirtual idx, 3)) (q : am_qV mL_law idx M' n) (hcl : vwCl[5]? = some (M'.1.cls, TX5, 32)) (hM : am_Met M' (.ref 0 :: As) (fX5 k) 0 0 Zc) (hint : (As.all fun v => match v with | .int _ => true | _ => false) = true) (hAs : As.length = n) (hst0 : As.reverse ++ [.ref 38, .int x] = st0)
    (hok : ∀ v h1, Zc v h1 → am_okh 23 h1 = true ∧ ∀ w, v = some w → am_okv 23 w = true)
    (kk : ∀ v h1, Zc v h1 → am_Ok mL_law sc Z nc ns (pc + 3) (lwLs i) ((v.map (am_v (am_ix (List.range' 38 23)))).toList ++ [.int x]) (fX4 hp s0 s1 m ++ h1.map (Option.map (am_rn (List.range' 38 23))))) : am_Ok mL_law sc Z nc ns pc (lwLs i) st0 (fL hp s0 s1 m k) := by
  obtain ⟨q1, q2, q3, q4⟩ := q
  refine am_callV (is := List.range' 38 23) (n1 := 0) (s1 := 0) (st := [.int x]) (b := 38) (As := As) hd q1 q2 q3 q4 hcl hM rfl ?_ hAs hst0 (by show 1 ≤ 8; decide) (am_sub_sfx (fX4 hp s0 s1 m) (fX5 k) (f4_len hp s0 s1 m)) (am_nd_range' 38 23) (by unfold fL; rw [List.length_append, f4_len, gM_len]; decide) (by rw [List.length_range']; decide) (am_fr_some _ _ _ _ _ (fam_X5 k).2.2) ⟨Nat.zero_le _, Nat.zero_le _⟩ hok (fun v h1 hz hl1 => ?_)
  · rw [List.map_cons, am_ints_id _ hint]; rfl
  · have h2 := kk v h1 hz
    unfold fL
    rw [am_put_sfx (fX4 hp s0 s1 m) (f4_len hp s0 s1 m) (by rw [List.length_map]; exact hl1) (gM_len k)]
    exact h2
theorem am_lawHP {K : Int32 → Prop} (hd : decode mL_law.2.1 pc = .ok (.invokevirtual idx, 3)) (q : am_qV mL_law idx M' n) (hcl : vwCl[4]? = some (M'.1.cls, TX4, 5)) (hM : am_Met M' (.ref 0 :: As) (fX4 hp s0 s1 m) 0 0 (zP (fX4 hp s0 s1 m) K)) (hint : (As.all fun v => match v with | .int _ => true | _ => false) = true) (hAs : As.length = n) (hst0 : As.reverse ++ [.ref 0] = st0)
    (kk : ∀ x, K x → am_Ok mL_law sc Z nc ns (pc + 3) (lwLs i) [.int x] (fL hp s0 s1 m k)) : am_Ok mL_law sc Z (nc + 16) (ns + 12311) pc (lwLs i) st0 (fL hp s0 s1 m k) :=
  am_less (Nat.le_add_right _ _) (Nat.le_add_right _ _) (am_lawH hd q hcl hM hint hAs hst0 ⟨Nat.zero_le _, Nat.zero_le _⟩ (by rintro v h1 ⟨x, rfl, rfl, -⟩; exact ⟨f4_ok _ _ _ _, fun w hw => by cases hw; rfl⟩) (by rintro v h1 ⟨x, rfl, rfl, hK⟩; exact kk x hK))
theorem am_lawHI {K : Int32 → HM → Prop} (hd : decode mL_law.2.1 pc = .ok (.invokevirtual idx, 3)) (q : am_qV mL_law idx M' n) (hcl : vwCl[4]? = some (M'.1.cls, TX4, 5)) (hM : am_Met M' (.ref 0 :: As) (fX4 hp s0 s1 m) 0 0 (zI (fX4 hp s0 s1) K)) (hint : (As.all fun v => match v with | .int _ => true | _ => false) = true) (hAs : As.length = n) (hst0 : As.reverse ++ [.ref 0] = st0)
    (kk : ∀ x m1, K x m1 → am_Ok mL_law sc Z nc ns (pc + 3) (lwLs i) [.int x] (fL hp s0 s1 m1 k)) : am_Ok mL_law sc Z (nc + 16) (ns + 12311) pc (lwLs i) st0 (fL hp s0 s1 m k) :=
  am_less (Nat.le_add_right _ _) (Nat.le_add_right _ _) (am_lawH hd q hcl hM hint hAs hst0 ⟨Nat.zero_le _, Nat.zero_le _⟩ (by rintro v h1 ⟨x, m1, rfl, rfl, -⟩; exact ⟨f4_ok _ _ _ _, fun w hw => by cases hw; rfl⟩) (by rintro v h1 ⟨x, m1, rfl, rfl, hK⟩; exact kk x m1 hK))
theorem am_lawHH {K : Int32 → Bool → Bool → Bool → HM → Prop} (hn : n1 ≤ 16 ∧ s1' ≤ 12311) (hd : decode mL_law.2.1 pc = .ok (.invokevirtual idx, 3)) (q : am_qV mL_law idx M' n) (hcl : vwCl[4]? = some (M'.1.cls, TX4, 5)) (hM : am_Met M' (.ref 0 :: As) (fX4 hp s0 s1 m) n1 s1' (zH K)) (hint : (As.all fun v => match v with | .int _ => true | _ => false) = true) (hAs : As.length = n) (hst0 : As.reverse ++ [.ref 0] = st0)
    (kk : ∀ x hp1 s01 s11 m1, K x hp1 s01 s11 m1 → am_Ok mL_law sc Z nc ns (pc + 3) (lwLs i) [.int x] (fL hp1 s01 s11 m1 k)) : am_Ok mL_law sc Z (nc + 16) (ns + 12311) pc (lwLs i) st0 (fL hp s0 s1 m k) :=
  am_lawH hd q hcl hM hint hAs hst0 ⟨by omega, by omega⟩ (by rintro v h1 ⟨x, hp1, s01, s11, m1, rfl, rfl, -⟩; exact ⟨f4_ok _ _ _ _, fun w hw => by cases hw; rfl⟩) (by rintro v h1 ⟨x, hp1, s01, s11, m1, rfl, rfl, hK⟩; exact am_less (by omega) (by omega) (kk x hp1 s01 s11 m1 hK))
theorem am_lawMP {K : Int32 → Prop} {x : Int32} (hd : decode mL_law.2.1 pc = .ok (.invokevirtual idx, 3)) (q : am_qV mL_law idx M' n) (hcl : vwCl[5]? = some (M'.1.cls, TX5, 32)) (hM : am_Met M' (.ref 0 :: As) (fX5 k) 0 0 (zP (fX5 k) K)) (hint : (As.all fun v => match v with | .int _ => true | _ => false) = true) (hAs : As.length = n) (hst0 : As.reverse ++ [.ref 38, .int x] = st0)
    (kk : ∀ y, K y → am_Ok mL_law sc Z nc ns (pc + 3) (lwLs i) [.int y, .int x] (fL hp s0 s1 m k)) : am_Ok mL_law sc Z nc ns pc (lwLs i) st0 (fL hp s0 s1 m k) :=
  am_lawM hd q hcl hM hint hAs hst0 (zP_ok fam_X5) (by rintro v h1 ⟨y, rfl, rfl, hK⟩; exact kk y hK)
theorem am_lawMI {K : Int32 → Mu → Prop} {x : Int32} (hd : decode mL_law.2.1 pc = .ok (.invokevirtual idx, 3)) (q : am_qV mL_law idx M' n) (hcl : vwCl[5]? = some (M'.1.cls, TX5, 32)) (hM : am_Met M' (.ref 0 :: As) (fX5 k) 0 0 (zI fX5 K)) (hint : (As.all fun v => match v with | .int _ => true | _ => false) = true) (hAs : As.length = n) (hst0 : As.reverse ++ [.ref 38, .int x] = st0)
    (kk : ∀ y k1, K y k1 → am_Ok mL_law sc Z nc ns (pc + 3) (lwLs i) [.int y, .int x] (fL hp s0 s1 m k1)) : am_Ok mL_law sc Z nc ns pc (lwLs i) st0 (fL hp s0 s1 m k) :=
  am_lawM hd q hcl hM hint hAs hst0 (zI_ok fam_X5) (by rintro v h1 ⟨y, k1, rfl, rfl, hK⟩; exact kk y k1 hK)
end AML
