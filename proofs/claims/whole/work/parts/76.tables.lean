/-! the reference's tables -/
section TB
variable {m : Mu} {K : Mu → Prop} {n : Nat}
theorem drop_step {b d left k : Nat} {xs : List Nat} (h : dl b (d + 1) left = xs.drop k) : xs[k]? = some (left % b) ∧ dl b d (left / b) = xs.drop (k + 1) := by
  have h1 : (xs.drop k)[0]? = some (left % b) := by rw [← h]; rfl
  rw [List.getElem?_drop] at h1
  refine ⟨by simpa using h1, ?_⟩
  have : (xs.drop k).drop 1 = xs.drop (k + 1) := by rw [List.drop_drop]
  rw [← this, ← h]
  rfl
theorem sh_one : ∀ n, n < 4 → (((1 : Int32) <<< (nI n &&& 31)) - (1 : Int32)) = nI (2 ^ n - 1) := by decide +kernel
def toI (n c : Nat) (m : Mu) : Prop := m 32 7 = nI (fb_ct (vo n) c) ∧ ∀ c', c' < c → vo n c' = true → m 9 c' = nI (fb_ct (vo n) c') ∧ ∀ (j x : Nat), (dl 4 n c')[j]? = some x → m 8 (4 * fb_ct (vo n) c' + j) = nI x
def toS (m m' : Mu) : Prop := (∀ a, a ≠ 8 → a ≠ 9 → a ≠ 32 → m' a = m a) ∧ ∀ i, i ≠ 7 → m' 32 i = m 32 i
theorem toS.rf {m : Mu} : toS m m := ⟨fun _ _ _ _ => rfl, fun _ _ => rfl⟩
theorem toS.tr {m m' m'' : Mu} (h : toS m m') (h2 : toS m' m'') : toS m m'' := ⟨fun a h1 h3 h4 => (h2.1 a h1 h3 h4).trans (h.1 a h1 h3 h4), fun i hi => (h2.2 i hi).trans (h.2 i hi)⟩
def twI (n c : Nat) (m : Mu) : Prop := m 32 10 = nI (fb_ct (vw n) c) ∧ ∀ c', c' < c → vw n c' = true → m 12 c' = nI (fb_ct (vw n) c') ∧ ∀ (j x : Nat), (dl 5 6 c')[j]? = some x → m 11 (6 * fb_ct (vw n) c' + j) = nI x
def twS (m m' : Mu) : Prop := (∀ a, a ≠ 11 → a ≠ 12 → a ≠ 32 → m' a = m a) ∧ ∀ i, i ≠ 10 → m' 32 i = m 32 i
theorem twS.rf {m : Mu} : twS m m := ⟨fun _ _ _ _ => rfl, fun _ _ => rfl⟩
theorem twS.tr {m m' m'' : Mu} (h : twS m m') (h2 : twS m' m'') : twS m m'' := ⟨fun a h1 h3 h4 => (h2.1 a h1 h3 h4).trans (h.1 a h1 h3 h4), fun i hi => (h2.2 i hi).trans (h.2 i hi)⟩
theorem ct_no {f : Nat → Bool} {c : Nat} (h : f c = false) : fb_ct f (c + 1) = fb_ct f c := by rw [fb_ct_succ, h]; rfl
theorem ct_yes {f : Nat → Bool} {c : Nat} (h : f c = true) : fb_ct f (c + 1) = fb_ct f c + 1 := by rw [fb_ct_succ, if_pos h]
theorem t5_or_88 {X0 : Int32 → Int32 → Int32 → Mu → Prop} {X1 : Int32 → Int32 → Int32 → Int32 → Int32 → Int32 → Mu → Prop} {c : Nat} {v2 : Int32} (hn : n ≤ 3) (hc : c < 4 ^ n) (hv : vo n c = true) (hI : toI n c m) (hX : ∀ m', toI n (c + 1) m' → toS m m' → X0 (nI n) v2 (nI (c + 1)) m') : ∀ d k left m1, k + d = n → left < 2 ^ 31 → dl 4 d left = (dl 4 n c).drop k → (∀ a, a ≠ 8 → m1 a = m a) → (∀ q, q < 4 * fb_ct (vo n) c → m1 8 q = m 8 q) → (∀ (j x : Nat), j < k → (dl 4 n c)[j]? = some x → m1 8 (4 * fb_ct (vo n) c + j) = nI x) → lpX5_layOrders_88 K X0 X1 (d + 1) (nI n) v2 (nI c) (nI k) (nI left) m1 := by
  have hr : fb_ct (vo n) c < 6 := Nat.lt_of_lt_of_le (ct_lt hv hc) (vo_bound n (by omega))
  have h64 : 4 ^ n ≤ 64 := Nat.pow_le_pow_right (by decide) hn
  intro d
  induction d with
  | zero =>
    intro k left m1 hk hleft hd s1 s2 s3
    have e : k = n := by omega
    subst e
    unfold lpX5_layOrders_88
    have e7 : m1 32 7 = nI (fb_ct (vo k) c) := by rw [s1 32 (by decide)]; exact hI.1
    refine pk_le k k (fun _ => ⟨pk_in c 64 (by omega), fun m7 e7' m8 e8 x9 e9 => ?_⟩) (fun z => absurd z (by omega))
    rw [nI_clamp (by omega), e7] at e7'
    have e732 : m7 32 = m1 32 := by rw [e7', pu_upn _ _ _ (by decide)]
    rw [e732, e7, nI_1] at e8
    rw [e9, nI_1]
    refine hX m8 ⟨?_, fun c' hc' hv' => ?_⟩ ⟨fun a a8 a9 a32 => ?_, fun i hi => ?_⟩
    · rw [e8, pu_up, pu_u, ct_yes hv]
    · rw [e8, pu_upn _ _ _ (by decide), pu_upn _ _ _ (by decide), e7', pu_up, pu_upn _ _ _ (by decide)]
      by_cases e : c' = c
      · subst e
        rw [pu_u]
        refine ⟨rfl, fun j x hx => s3 j x ?_ hx⟩
        have := (List.getElem?_eq_some_iff.mp hx).1
        rw [dl_len] at this
        exact this
      · have hlt : c' < c := by omega
        have hrr := ct_lt hv' hlt
        rw [pu_un _ _ e, s1 9 (by decide)]
        refine ⟨(hI.2 c' hlt hv').1, fun j x hx => ?_⟩
        have hj := (List.getElem?_eq_some_iff.mp hx).1
        rw [dl_len] at hj
        rw [s2 _ (by omega)]
        exact (hI.2 c' hlt hv').2 j x hx
    · rw [e8, pu_upn _ _ _ a32, e7', pu_upn _ _ _ a9]; exact s1 a a8
    · rw [e8, pu_up, pu_un _ _ hi, e732, s1 32 (by decide)]
  | succ d ih =>
    intro k left m1 hk hleft hd s1 s2 s3
    obtain ⟨g1, g2⟩ := drop_step hd
    have e7 : m1 32 7 = nI (fb_ct (vo n) c) := by rw [s1 32 (by decide)]; exact hI.1
    unfold lpX5_layOrders_88
    rw [e7, show (4 : Int32) = nI 4 from rfl, pk_mul, nI_add, rem_nI hleft (by decide) (by decide), pk_div hleft (by decide) (by decide)]
    refine pk_le n k (fun z => absurd z (by omega)) (fun _ => ⟨pk_in (4 * fb_ct (vo n) c + k) 24 (by omega), fun m10 e10 x11 e11 x12 e12 => ?_⟩)
    rw [nI_clamp (by omega)] at e10
    rw [e11, e12, nI_1]
    refine ih (k + 1) (left / 4) m10 (by omega) (by omega) g2 (fun a ha => ?_) (fun q hq => ?_) (fun j x hj hx => ?_)
    · rw [e10, pu_upn _ _ _ ha]; exact s1 a ha
    · rw [e10, pu_up, pu_un _ _ (by omega)]; exact s2 q hq
    · rw [e10, pu_up]
      by_cases e : j = k
      · subst e
        rw [g1] at hx
        cases hx
        rw [pu_u]
      · rw [pu_un _ _ (by omega)]; exact s3 j x (by omega) hx
theorem t5_or_43 {X0 : Int32 → Int32 → Int32 → Mu → Prop} {c : Nat} {v2 : Int32} (hn : n ≤ 3) (hc : c < 4 ^ n) (hI : toI n c m) (hX : ∀ m', toI n (c + 1) m' → toS m m' → X0 (nI n) v2 (nI (c + 1)) m') : ∀ d k left s, k + d = n → left < 2 ^ 31 → s < 256 → sn d left s = sn n c 0 → lpX5_layOrders_43 K X0 (d + 1) (nI n) v2 (nI c) (nI s) (nI k) (nI left) m := by
  have h64 : 4 ^ n ≤ 64 := Nat.pow_le_pow_right (by decide) hn
  intro d
  induction d with
  | zero =>
    intro k left s hk hleft hs256 hs
    have e : k = n := by omega
    subst e
    have hs' : s = sn k c 0 := hs
    unfold lpX5_layOrders_43
    rw [sh_one k (by omega)]
    have h8 : 2 ^ k - 1 < 2 ^ 31 := by
      have : 2 ^ k ≤ 2 ^ 3 := Nat.pow_le_pow_right (by decide) hn
      omega
    refine pk_le k k (fun _ => pk_eq s (2 ^ k - 1) (fun e => ⟨k + 1, ?_⟩) (fun e x14 e14 => ?_)) (fun z => absurd z (by omega))
    · have hv : vo k c = true := by unfold vo; rw [beq_iff_eq, ← hs']; exact e
      exact t5_or_88 hn hc hv hI hX k 0 c m (by omega) (by omega) (by simp) (fun _ _ => rfl) (fun _ _ => rfl) (fun j x hj => absurd hj (by omega))
    · have hv : vo k c = false := by
        cases h : vo k c with
        | false => rfl
        | true => unfold vo at h; rw [beq_iff_eq, ← hs'] at h; exact absurd h e
      rw [e14, nI_1]
      refine hX m ⟨by rw [ct_no hv]; exact hI.1, fun c' hc' hv' => ?_⟩ toS.rf
      by_cases e : c' = c
      · subst e; rw [hv] at hv'; exact absurd hv' (by decide)
      · exact hI.2 c' (by omega) hv'
  | succ d ih =>
    intro k left s hk hleft hs256 hs
    unfold lpX5_layOrders_43
    have hm4 : left % 4 < 8 := Nat.lt_of_lt_of_le (Nat.mod_lt _ (by decide)) (by decide)
    rw [show (4 : Int32) = nI 4 from rfl, rem_nI hleft (by decide) (by decide), pk_div hleft (by decide) (by decide), bit_on s hs256 (left % 4) hm4]
    refine pk_le n k (fun z => absurd z (by omega)) (fun _ x15 e15 x16 e16 x17 e17 => ?_)
    rw [e15, e16, e17, nI_1]
    exact ih (k + 1) (left / 4) (s ||| 2 ^ (left % 4)) (by omega) (by omega) (bit_on_lt s hs256 _ hm4) hs
theorem t5_or_29 (hn : n ≤ 3) (hK : ∀ m', toI n (4 ^ n) m' → toS m m' → K m') : ∀ d c m1, c + d = 4 ^ n → toI n c m1 → toS m m1 → lpX5_layOrders_29 K (d + 1) (nI n) (nI (4 ^ n)) (nI c) m1 := by
  have h64 : 4 ^ n ≤ 64 := Nat.pow_le_pow_right (by decide) hn
  intro d
  induction d with
  | zero =>
    intro c m1 hc hI hS
    have e : c = 4 ^ n := by omega
    subst e
    unfold lpX5_layOrders_29
    exact pk_le (4 ^ n) (4 ^ n) (fun _ => hK m1 hI hS) (fun z => absurd z (by omega))
  | succ d ih =>
    intro c m1 hc hI hS
    unfold lpX5_layOrders_29
    refine pk_le (4 ^ n) c (fun z => absurd z (by omega)) (fun _ => ⟨n + 1, ?_⟩)
    exact t5_or_43 hn (by omega) hI (fun m' hI' hS' => ih (c + 1) m' (by omega) hI' (hS.tr hS')) n 0 c 0 (by omega) (by omega) (by decide) rfl
theorem t5_layOrders (hn : n ≤ 3) (hn1 : 1 ≤ n) (hK : ∀ m', toI n (4 ^ n) m' → toS m m' → K m') : wX5_layOrders (nI n) m K := by
  intro m1 e1
  have hS1 : toS m m1 := by rw [e1]; exact ⟨fun a _ _ h => pu_upn _ _ _ h, fun i hi => by rw [pu_up, pu_un _ _ hi]⟩
  have h0 : toI n 0 m1 := ⟨by rw [e1, pu_up, pu_u]; rfl, fun c' hc' => absurd hc' (by omega)⟩
  have key : ∃ n19 : Nat, lpX5_layOrders_29 K n19 (nI n) (nI (4 ^ n)) (0 : Int32) m1 := ⟨4 ^ n + 1, t5_or_29 hn (fun m' hI' hS' => hK m' hI' (hS1.tr hS')) (4 ^ n) 0 m1 (by omega) h0 toS.rf⟩
  have : n = 1 ∨ n = 2 ∨ n = 3 := by omega
  rcases this with rfl | rfl | rfl
  · exact ⟨fun _ => key, fun z => absurd rfl z⟩
  · exact ⟨fun z => absurd z (by decide), fun _ => ⟨fun _ => key, fun z => absurd rfl z⟩⟩
  · exact ⟨fun z => absurd z (by decide), fun _ => ⟨fun z => absurd z (by decide), fun _ => key⟩⟩
theorem t5_wa_59 {X0 : Int32 → Int32 → Mu → Prop} {X1 : Int32 → Int32 → Int32 → Int32 → Int32 → Mu → Prop} {c : Nat} (hn : n ≤ 3) (hc : c < 15625) (hv : vw n c = true) (hI : twI n c m) (hX : ∀ m', twI n (c + 1) m' → twS m m' → X0 (nI n) (nI (c + 1)) m') : ∀ d k left m1, k + d = 6 → left < 2 ^ 31 → dl 5 d left = (dl 5 6 c).drop k → (∀ a, a ≠ 11 → m1 a = m a) → (∀ q, q < 6 * fb_ct (vw n) c → m1 11 q = m 11 q) → (∀ (j x : Nat), j < k → (dl 5 6 c)[j]? = some x → m1 11 (6 * fb_ct (vw n) c + j) = nI x) → lpX5_layWays_59 K X0 X1 (d + 1) (nI n) (nI c) (nI k) (nI left) m1 := by
  have hr : fb_ct (vw n) c < 56 := Nat.lt_of_lt_of_le (ct_lt hv hc) (vw_bound hn)
  intro d
  induction d with
  | zero =>
    intro k left m1 hk hleft hd s1 s2 s3
    have e : k = 6 := by omega
    subst e
    unfold lpX5_layWays_59
    have e7 : m1 32 10 = nI (fb_ct (vw n) c) := by rw [s1 32 (by decide)]; exact hI.1
    refine pk_le 6 6 (fun _ => ⟨pk_in c 15625 (by omega), fun m7 e7' m8 e8 x9 e9 => ?_⟩) (fun z => absurd z (by omega))
    rw [nI_clamp (by omega), e7] at e7'
    have e732 : m7 32 = m1 32 := by rw [e7', pu_upn _ _ _ (by decide)]
    rw [e732, e7, nI_1] at e8
    rw [e9, nI_1]
    refine hX m8 ⟨?_, fun c' hc' hv' => ?_⟩ ⟨fun a a8 a9 a32 => ?_, fun i hi => ?_⟩
    · rw [e8, pu_up, pu_u, ct_yes hv]
    · rw [e8, pu_upn _ _ _ (by decide), pu_upn _ _ _ (by decide), e7', pu_up, pu_upn _ _ _ (by decide)]
      by_cases e : c' = c
      · subst e
        rw [pu_u]
        refine ⟨rfl, fun j x hx => s3 j x ?_ hx⟩
        have := (List.getElem?_eq_some_iff.mp hx).1
        rw [dl_len] at this
        exact this
      · have hlt : c' < c := by omega
        have hrr := ct_lt hv' hlt
        rw [pu_un _ _ e, s1 12 (by decide)]
        refine ⟨(hI.2 c' hlt hv').1, fun j x hx => ?_⟩
        have hj := (List.getElem?_eq_some_iff.mp hx).1
        rw [dl_len] at hj
        rw [s2 _ (by omega)]
        exact (hI.2 c' hlt hv').2 j x hx
    · rw [e8, pu_upn _ _ _ a32, e7', pu_upn _ _ _ a9]; exact s1 a a8
    · rw [e8, pu_up, pu_un _ _ hi, e732, s1 32 (by decide)]
  | succ d ih =>
    intro k left m1 hk hleft hd s1 s2 s3
    obtain ⟨g1, g2⟩ := drop_step hd
    have e7 : m1 32 10 = nI (fb_ct (vw n) c) := by rw [s1 32 (by decide)]; exact hI.1
    unfold lpX5_layWays_59
    rw [e7, show (6 : Int32) = nI 6 from rfl, show (5 : Int32) = nI 5 from rfl, pk_mul, nI_add, rem_nI hleft (by decide) (by decide), pk_div hleft (by decide) (by decide)]
    refine pk_le 6 k (fun z => absurd z (by omega)) (fun _ => ⟨pk_in (6 * fb_ct (vw n) c + k) 336 (by omega), fun m10 e10 x11 e11 x12 e12 => ?_⟩)
    rw [nI_clamp (by omega)] at e10
    rw [e11, e12, nI_1]
    refine ih (k + 1) (left / 5) m10 (by omega) (by omega) g2 (fun a ha => ?_) (fun q hq => ?_) (fun j x hj hx => ?_)
    · rw [e10, pu_upn _ _ _ ha]; exact s1 a ha
    · rw [e10, pu_up, pu_un _ _ (by omega)]; exact s2 q hq
    · rw [e10, pu_up]
      by_cases e : j = k
      · subst e
        rw [g1] at hx
        cases hx
        rw [pu_u]
      · rw [pu_un _ _ (by omega)]; exact s3 j x (by omega) hx
theorem t5_wa_22 {X0 : Int32 → Int32 → Mu → Prop} {c : Nat} (hn : n ≤ 3) (hc : c < 15625) (hI : twI n c m) (hX : ∀ m', twI n (c + 1) m' → twS m m' → X0 (nI n) (nI (c + 1)) m') : ∀ d k left s, k + d = 6 → left < 2 ^ 31 → s + 5 * d < 100 → su d left s = su 6 c 0 → lpX5_layWays_22 K X0 (d + 1) (nI n) (nI c) (nI s) (nI k) (nI left) m := by
  intro d
  induction d with
  | zero =>
    intro k left s hk hleft hs256 hs
    have e : k = 6 := by omega
    subst e
    have hs' : s = su 6 c 0 := hs
    unfold lpX5_layWays_22
    refine pk_le 6 6 (fun _ => pk_eq s n (fun e => ⟨7, ?_⟩) (fun e x14 e14 => ?_)) (fun z => absurd z (by omega))
    · have hv : vw n c = true := by unfold vw; rw [beq_iff_eq, ← hs']; exact e
      exact t5_wa_59 hn hc hv hI hX 6 0 c m (by omega) (by omega) (by simp) (fun _ _ => rfl) (fun _ _ => rfl) (fun j x hj => absurd hj (by omega))
    · have hv : vw n c = false := by
        cases h : vw n c with
        | false => rfl
        | true => unfold vw at h; rw [beq_iff_eq, ← hs'] at h; exact absurd h e
      rw [e14, nI_1]
      refine hX m ⟨by rw [ct_no hv]; exact hI.1, fun c' hc' hv' => ?_⟩ twS.rf
      by_cases e : c' = c
      · subst e; rw [hv] at hv'; exact absurd hv' (by decide)
      · exact hI.2 c' (by omega) hv'
  | succ d ih =>
    intro k left s hk hleft hs256 hs
    unfold lpX5_layWays_22
    have hm4 : left % 5 < 5 := Nat.mod_lt _ (by decide)
    rw [show (5 : Int32) = nI 5 from rfl, rem_nI hleft (by decide) (by decide), pk_div hleft (by decide) (by decide), nI_add]
    refine pk_le 6 k (fun z => absurd z (by omega)) (fun _ x15 e15 x16 e16 x17 e17 => ?_)
    rw [e15, e16, e17, nI_1]
    exact ih (k + 1) (left / 5) (s + left % 5) (by omega) (by omega) (by omega) hs
theorem t5_wa_7 (hn : n ≤ 3) (hK : ∀ m', twI n 15625 m' → twS m m' → K m') : ∀ d c m1, c + d = 15625 → twI n c m1 → twS m m1 → lpX5_layWays_7 K (d + 1) (nI n) (nI c) m1 := by
  intro d
  induction d with
  | zero =>
    intro c m1 hc hI hS
    have e : c = 15625 := by omega
    subst e
    unfold lpX5_layWays_7
    exact pk_le 15625 15625 (fun _ => hK m1 hI hS) (fun z => absurd z (by omega))
  | succ d ih =>
    intro c m1 hc hI hS
    unfold lpX5_layWays_7
    refine pk_le 15625 c (fun z => absurd z (by omega)) (fun _ => ⟨7, ?_⟩)
    exact t5_wa_22 hn (by omega) hI (fun m' hI' hS' => ih (c + 1) m' (by omega) hI' (hS.tr hS')) 6 0 c 0 (by omega) (by omega) (by decide) rfl
theorem t5_layWays (hn : n ≤ 3) (hK : ∀ m', twI n 15625 m' → twS m m' → K m') : wX5_layWays (nI n) m K := by
  intro m1 e1
  have hS1 : twS m m1 := by rw [e1]; exact ⟨fun a _ _ h => pu_upn _ _ _ h, fun i hi => by rw [pu_up, pu_un _ _ hi]⟩
  have h0 : twI n 0 m1 := ⟨by rw [e1, pu_up, pu_u]; rfl, fun c' hc' => absurd hc' (by omega)⟩
  exact ⟨15626, t5_wa_7 hn (fun m' hI' hS' => hK m' hI' (hS1.tr hS')) 15625 0 m1 (by omega) h0 twS.rf⟩
end TB
