/-! one situation is finished, with its neighbours by movements -/
section FO
variable {len siz : Nat → Nat} {ded : Nat → Bool} {n ang l p : Nat} {a : Sit} {m0 : Mu} {K : Mu → Prop} {L κ : Nat} {A D : List Nat} {tu ac : Nat → Nat} {T : List (Nat × Nat)} {t mm : Nat}
theorem cov_app {M : List (Nat × Nat)} {x : Nat × Nat} {u y : Nat} (h : cov L A tu ac T M u y) : cov L A tu ac T (M ++ [x]) u y := by
  rcases h with z | z | ⟨w, w1, w2⟩
  · exact Or.inl z
  · exact Or.inr (Or.inl z)
  · exact Or.inr (Or.inr ⟨w, List.mem_append_left _ w1, w2⟩)
/-- while the neighbours of a are put in: codes below U are through -/
def nbS (len siz : Nat → Nat) (ded : Nat → Bool) (n ang l p : Nat) (a : Sit) (L κ : Nat) (A : List Nat) (tu ac : Nat → Nat) (T : List (Nat × Nat)) (t mm : Nat) (D : List Nat) (m0 : Mu) (U : Nat) (M : List (Nat × Nat)) (m : Mu) : Prop := lvS (gR len siz n l p) (eR len siz ded n) 4032 L κ A tu ac T M t mm D (fun u => u = fR len n a) ∧ reM L A tu ac T M D m ∧ rfM len siz ded n ang m ∧ gS m0 m ∧ ∀ code b, 2 ≤ code → code < U → act len siz ded code a b → cov L A tu ac T M (fR len n b) (cst tu ac (fR len n a) + 1)
theorem t5_fo_55 {X0 : Int32 → Int32 → Int32 → Int32 → Mu → Prop} {kd : Nat} (hs1 : ∀ l, l < n → 1 ≤ siz l) (hn : n ≤ 3) (h5 : trk len 12 ≤ 5) (hV : sV len siz n a) (hk : isKd kd) (hL : L < 2 ^ 31) (hs : fR len n a ∈ A) (hc : cst tu ac (fR len n a) = 10000 * L + κ) (hκ : κ < A.length) (hX : ∀ M m, nbS len siz ded n ang l p a L κ A tu ac T t mm D m0 (kd + 11) M m → X0 (nI (fR len n a)) (nI κ) (nI L) (nI (kd + 10)) m) : ∀ d c M m, c + d = 4 → 1 ≤ c → nbS len siz ded n ang l p a L κ A tu ac T t mm D m0 (kd + c) M m → lpX5_finishOne_55 K X0 (d + 1) (nI (fR len n a)) (nI κ) (nI L) (nI kd) (nI c) m := by
  have hkd : 10 ≤ kd ∧ kd ≤ 40 ∧ kd % 10 = 0 := by rcases hk with rfl | rfl | rfl | rfl <;> decide
  have skip : ∀ code b, 2 ≤ code → (∀ k, code = kd + k → k ≤ 10 → 4 ≤ k) → kd ≤ code → code < kd + 11 → ¬ act len siz ded code a b := fun code b h2 hk4 hlo hhi hact => by
    rcases hact with ⟨e, -⟩ | ⟨e, -⟩ | ⟨kd', k', e, h⟩
    · omega
    · omega
    · have s2 := sMv_code hV hn h
      have hkd' : kd' % 10 = 0 := by rcases s2.1 with rfl | rfl | rfl | rfl <;> decide
      have : kd' = kd := by omega
      have := hk4 k' (by omega) (by omega)
      omega
  intro d
  induction d with
  | zero =>
    intro c M m hcd h1 hN
    have e : c = 4 := by omega
    subst e
    unfold lpX5_finishOne_55
    refine pk_lt 3 4 (fun _ x8 e8 => ?_) (fun z => absurd z (by omega))
    rw [e8, show (10 : Int32) = nI 10 from rfl, nI_add]
    obtain ⟨n1, n2, n3, n4, n5⟩ := hN
    refine hX M m ⟨n1, n2, n3, n4, fun code b h2 hlt hact => ?_⟩
    by_cases hlo : code < kd + 4
    · exact n5 code b h2 hlo hact
    · exact absurd hact (skip code b h2 (fun k hk hk2 => by omega) (by omega) hlt)
  | succ d ih =>
    intro c M m hcd h1 hN
    obtain ⟨n1, n2, n3, n4, n5⟩ := hN
    have hlvM := n1.2.2.1
    unfold lpX5_finishOne_55
    refine pk_lt 3 c (fun z => absurd z (by omega)) (fun _ => ?_)
    rw [nI_add, nI_1 κ]
    refine t5_behind hs1 hn h5 hV n3 (Or.inr ⟨kd, c, hk, h1, by omega, rfl⟩) (fun b m10 hact hS10 => ?_) (fun hno m10 hS10 => ?_)
    · have hVb := act.V hV hact
      have hfb := fR_lt hs1 hn h5 hVb
      have hE : eR len siz ded n (fR len n a) (fR len n b) 1 := ⟨a, b, hV, hVb, ⟨kd + c, hact, by unfold wgt; rw [if_neg (by omega)]⟩, rfl, rfl⟩
      have old : ∀ M', (∀ u y, cov L A tu ac T M u y → cov L A tu ac T M' u y) → cov L A tu ac T M' (fR len n b) (cst tu ac (fR len n a) + 1) → ∀ code b', 2 ≤ code → code < kd + (c + 1) → act len siz ded code a b' → cov L A tu ac T M' (fR len n b') (cst tu ac (fR len n a) + 1) := fun M' hmono hb code b' h2 hlt hact' => by
        by_cases e : code = kd + c
        · rw [e] at hact'
          rw [act_one hV hn hact hact']; exact hb
        · exact hmono _ _ (n5 code b' h2 (by omega) hact')
      refine t5_addMoved hfb hL (n2.lo hS10) (fun hA hM => ?_) (fun hin x12 e12 => ?_) (fun hA hM m' hR' hg' x12 e12 => ?_)
      · have := (lv_push _ _ n1 hs hc hκ hE hfb hM).2.2.1.2.1.len
        simp at this
        omega
      · rw [e12, nI_1]
        refine ih (c + 1) M m10 (by omega) (by omega) ⟨n1, n2.lo hS10, n3.lo hS10, n4.tr hS10.g, old M (fun _ _ h => h) ?_⟩
        rcases hin with z | z
        · have := (n1.2.1 _ z).2.2.2
          exact Or.inl ⟨z, by omega⟩
        · obtain ⟨x, hx, ex⟩ := List.mem_map.mp z
          have := n1.2.2.1.2.2 x hx
          exact Or.inr (Or.inr ⟨x, hx, ex, by omega⟩)
      · rw [e12, nI_1]
        refine ih (c + 1) _ m' (by omega) (by omega) ⟨lv_push _ _ n1 hs hc hκ hE hfb hM, hR', (n3.lo hS10).g hg', (n4.tr hS10.g).tr hg', old _ (fun _ _ h => cov_app h) ?_⟩
        exact Or.inr (Or.inr ⟨(fR len n b, κ + 1), by simp, rfl, by show 10000 * L + (κ + 1) ≤ _; omega⟩)
    · refine ⟨fun _ x12 e12 => ?_, fun z => absurd (by decide) z⟩
      rw [e12, nI_1]
      refine ih (c + 1) M m10 (by omega) (by omega) ⟨n1, n2.lo hS10, n3.lo hS10, n4.tr hS10.g, fun code b' h2 hlt hact' => ?_⟩
      by_cases e : code = kd + c
      · rw [e] at hact'
        exact absurd hact' (hno b')
      · exact n5 code b' h2 (by omega) hact'
theorem t5_fo_45 (hs1 : ∀ l, l < n → 1 ≤ siz l) (hn : n ≤ 3) (h5 : trk len 12 ≤ 5) (hV : sV len siz n a) (hL : L < 2 ^ 31) (hs : fR len n a ∈ A) (hc : cst tu ac (fR len n a) = 10000 * L + κ) (hκ : κ < A.length) (hK : ∀ M m, nbS len siz ded n ang l p a L κ A tu ac T t mm D m0 50 M m → K m) : ∀ d j M m, j + d = 5 → 1 ≤ j → nbS len siz ded n ang l p a L κ A tu ac T t mm D m0 (10 * j + 1) M m → lpX5_finishOne_45 K (d + 1) (nI (fR len n a)) (nI κ) (nI L) (nI (10 * j)) m := by
  intro d
  induction d with
  | zero =>
    intro j M m hj h1 hN
    have e : j = 5 := by omega
    subst e
    unfold lpX5_finishOne_45
    obtain ⟨n1, n2, n3, n4, n5⟩ := hN
    exact pk_le 50 50 (fun _ => hK M m ⟨n1, n2, n3, n4, fun code b h2 hlt hact => n5 code b h2 (by omega) hact⟩) (fun z => absurd z (by omega))
  | succ d ih =>
    intro j M m hj h1 hN
    unfold lpX5_finishOne_45
    refine pk_le 50 (10 * j) (fun z => absurd z (by omega)) (fun _ => ⟨4, ?_⟩)
    have hk : isKd (10 * j) := by
      have : j = 1 ∨ j = 2 ∨ j = 3 ∨ j = 4 := by omega
      rcases this with rfl | rfl | rfl | rfl
      · exact Or.inl rfl
      · exact Or.inr (Or.inl rfl)
      · exact Or.inr (Or.inr (Or.inl rfl))
      · exact Or.inr (Or.inr (Or.inr rfl))
    refine t5_fo_55 hs1 hn h5 hV hk hL hs hc hκ (fun M' m' hN' => ?_) 3 1 M m (by omega) (by omega) hN
    exact ih (j + 1) M' m' (by omega) (by omega) hN'
theorem t5_finishOne {k : Nat} {M : List (Nat × Nat)} {m : Mu} (hs1 : ∀ l, l < n → 1 ≤ siz l) (hn : n ≤ 3) (h5 : trk len 12 ≤ 5) (hV : sV len siz n a) (hL : L < 2 ^ 31) (hs : fR len n a ∉ A) (hkA : k ≤ A.length) (hls : lvS (gR len siz n l p) (eR len siz ded n) 4032 L k (A ++ [fR len n a]) (va_up tu (fR len n a) L) (va_up ac (fR len n a) k) T M t mm (D ++ [fR len n a]) (fun u => u = fR len n a)) (hc : cst (va_up tu (fR len n a) L) (va_up ac (fR len n a) k) (fR len n a) = 10000 * L + k) (hR : reM L A tu ac T M D m) (hM : rfM len siz ded n ang m) (hK : ∀ M' m', lvS (gR len siz n l p) (eR len siz ded n) 4032 L k (A ++ [fR len n a]) (va_up tu (fR len n a) L) (va_up ac (fR len n a) k) T M' t mm (D ++ [fR len n a]) (fun _ => False) → reM L (A ++ [fR len n a]) (va_up tu (fR len n a) L) (va_up ac (fR len n a) k) T M' (D ++ [fR len n a]) m' → rfM len siz ded n ang m' → gS m m' → K m') : wX5_finishOne (nI (fR len n a)) (nI k) (nI L) m K := by
  have hf := fR_lt hs1 hn h5 hV
  obtain ⟨r1, r2, r3, r4, r5, r6⟩ := hR
  have hDl : D.length < 4032 := by
    have := few 4032 (D ++ [fR len n a]) hls.2.2.2.2.2.2.2.2.2.2.1 (fun x hx => hls.1.2 x (hls.2.2.2.2.2.2.2.2.2.1 x hx).1)
    simp at this
    omega
  unfold wX5_finishOne
  rw [nI_clamp (by omega), show vp_nar .boolean (1 : Int32) = 1 from by decide]
  refine ⟨pk_in _ 4032 hf, fun m1 e1 => ⟨pk_in _ 4032 hf, fun m2 e2 => ⟨pk_in _ 4032 hf, fun m3 e3 => ?_⟩⟩⟩
  have c3 : m3 32 31 = nI D.length := by rw [e3, pu_upn _ _ _ (by decide), e2, pu_upn _ _ _ (by decide), e1, pu_upn _ _ _ (by decide)]; exact r4.1
  rw [c3]
  refine ⟨pk_in _ 4032 hDl, fun m4 e4 m5 e5 => ⟨5, ?_⟩⟩
  rw [nI_clamp (by omega)] at e4
  have c4 : m4 32 31 = nI D.length := by rw [e4, pu_upn _ _ _ (by decide)]; exact c3
  rw [c4, nI_1] at e5
  have g : ∀ x, x ≠ 19 → x ≠ 20 → x ≠ 21 → x ≠ 24 → x ≠ 32 → m5 x = m x := fun x x1 x2 x3 x4 x5 => by rw [e5, pu_upn _ _ _ x5, e4, pu_upn _ _ _ x4, e3, pu_upn _ _ _ x2, e2, pu_upn _ _ _ x1, e1, pu_upn _ _ _ x3]
  have g32 : ∀ i, i ≠ 31 → m5 32 i = m 32 i := fun i hi => by rw [e5, pu_up, pu_un _ _ hi, e4, pu_upn _ _ _ (by decide), e3, pu_upn _ _ _ (by decide), e2, pu_upn _ _ _ (by decide), e1, pu_upn _ _ _ (by decide)]
  have p21 : m5 21 = upd (m 21) (fR len n a) 1 := by rw [e5, pu_upn _ _ _ (by decide), e4, pu_upn _ _ _ (by decide), e3, pu_upn _ _ _ (by decide), e2, pu_upn _ _ _ (by decide), e1, pu_up]
  have p19 : m5 19 = upd (m 19) (fR len n a) (nI L) := by rw [e5, pu_upn _ _ _ (by decide), e4, pu_upn _ _ _ (by decide), e3, pu_upn _ _ _ (by decide), e2, pu_up, e1, pu_upn _ _ _ (by decide)]
  have p20 : m5 20 = upd (m 20) (fR len n a) (nI k) := by rw [e5, pu_upn _ _ _ (by decide), e4, pu_upn _ _ _ (by decide), e3, pu_up, e2, pu_upn _ _ _ (by decide), e1, pu_upn _ _ _ (by decide)]
  have p24 : m5 24 = upd (m 24) D.length (nI (fR len n a)) := by rw [e5, pu_upn _ _ _ (by decide), e4, pu_up, e3, pu_upn _ _ _ (by decide), e2, pu_upn _ _ _ (by decide), e1, pu_upn _ _ _ (by decide)]
  have hg5 : gS m m5 := ⟨fun x hx => g x (by omega) (by omega) (by omega) (by omega) (by omega), fun i hi => g32 i (by omega)⟩
  have hR5 : reM L (A ++ [fR len n a]) (va_up tu (fR len n a) L) (va_up ac (fR len n a) k) T M (D ++ [fR len n a]) m5 := by
    refine ⟨fun s hs' => ?_, ⟨by rw [g32 29 (by decide)]; exact r2.1, fun i x hx => by rw [g 22 (by decide) (by decide) (by decide) (by decide) (by decide), g 25 (by decide) (by decide) (by decide) (by decide) (by decide)]; exact r2.2 i x hx⟩, ⟨by rw [g32 30 (by decide)]; exact r3.1, fun i x hx => by rw [g 23 (by decide) (by decide) (by decide) (by decide) (by decide), g 26 (by decide) (by decide) (by decide) (by decide) (by decide)]; exact r3.2 i x hx⟩, ⟨by rw [e5, pu_up, pu_u]; simp, fun i s hx => ?_⟩, fun s hs' => by rw [g 27 (by decide) (by decide) (by decide) (by decide) (by decide)]; exact r5 s hs', fun s hs' => by rw [g 28 (by decide) (by decide) (by decide) (by decide) (by decide)]; exact r6 s hs'⟩
    · rw [p21, p19, p20]
      by_cases e : s = fR len n a
      · rw [e, pu_u, pu_u, pu_u, va_up_self, va_up_self]
        exact Or.inr ⟨rfl, by simp, rfl, rfl⟩
      · rw [pu_un _ _ e, pu_un _ _ e, pu_un _ _ e, va_up_ne _ _ e, va_up_ne _ _ e]
        rcases r1 s hs' with ⟨a1, a2⟩ | ⟨a1, a2, a3⟩
        · exact Or.inl ⟨a1, by simp; exact ⟨a2, e⟩⟩
        · exact Or.inr ⟨a1, List.mem_append_left _ a2, a3⟩
    · rw [p24]
      by_cases hl : i < D.length
      · rw [List.getElem?_append_left hl] at hx
        rw [pu_un _ _ (by omega)]
        exact r4.2 i s hx
      · have h2 := (List.getElem?_eq_some_iff.mp hx).1
        simp at h2
        have e : i = D.length := by omega
        subst e
        simp at hx
        rw [pu_u, hx]
  refine t5_fo_45 (m0 := m) hs1 hn h5 hV hL (by simp) hc (by simp; omega) (fun M' m' hN => ?_) 4 1 M m5 (by omega) (by omega) ⟨hls, hR5, hM.g hg5, hg5, fun code b h2 hlt hact => ?_⟩
  · obtain ⟨n1, n2, n3, n4, n5⟩ := hN
    refine hK M' m' (lv_exp _ _ n1 (fun u hu => ?_)) n2 n3 n4
    obtain ⟨a', b, va, vb, ⟨code, hact, ew⟩, ea, eb⟩ := hu
    have : a' = a := fR_inj hs1 hn h5 a' a va hV ea
    subst this
    rw [← eb]
    refine n5 code b ?_ (act_lt hV hn hact) hact
    unfold wgt at ew
    split at ew
    · exact absurd ew (by decide)
    · omega
  · rcases hact with ⟨e, -⟩ | ⟨e, -⟩ | ⟨kd', k', e, h⟩
    · omega
    · omega
    · have s2 := sMv_code hV hn h
      rcases s2.1 with z | z | z | z <;> omega
end FO
