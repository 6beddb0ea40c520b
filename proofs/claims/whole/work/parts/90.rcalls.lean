/-! the reference's calls -/
section RC
variable {len siz : Nat → Nat} {ded : Nat → Bool} {n ang l p : Nat} {m : Mu} {row : Nat → List Nat} {A : List Nat} {tu ac : Nat → Nat} {a : Sit}
theorem t5_sn_57 {K : Int32 → Mu → Prop} {X0 : Int32 → Mu → Prop} {r q : Nat} {R : Nat → List Nat} (hr : r < 6) (hq : q < 13) (hlen : (R r).length ≤ 4) (hsrc : ∀ (k x : Nat), (R r)[k]? = some x → m 0 (44 + 8 * q + k) = nI x) (h17 : m 17 r = nI (R r).length) (hX : ∀ m', (∀ a, a ≠ 16 → m' a = m a) → (∀ i, i < 4 * r → m' 16 i = m 16 i) → (∀ (k x : Nat), (R r)[k]? = some x → m' 16 (4 * r + k) = nI x) → X0 (nI (r + 1)) m') : ∀ d k m1, k + d = (R r).length → (∀ a, a ≠ 16 → m1 a = m a) → (∀ i, i < 4 * r → m1 16 i = m 16 i) → (∀ (j x : Nat), j < k → (R r)[j]? = some x → m1 16 (4 * r + j) = nI x) → lpX5_situationNow_57 K X0 (d + 1) (nI r) (nI q) (nI k) m1 := by
  intro d
  induction d with
  | zero =>
    intro k m1 hk s1 s2 s3
    have e : k = (R r).length := by omega
    subst e
    unfold lpX5_situationNow_57
    rw [nI_clamp (by omega), s1 17 (by decide), h17]
    refine ⟨pk_in r 6 hr, pk_le (R r).length (R r).length (fun _ x8 e8 => ?_) (fun z => absurd z (by omega))⟩
    rw [e8, nI_1]
    exact hX m1 s1 s2 (fun k x hx => s3 k x (List.getElem?_eq_some_iff.mp hx).1 hx)
  | succ d ih =>
    intro k m1 hk s1 s2 s3
    have hx := List.getElem?_eq_getElem (show k < (R r).length by omega)
    unfold lpX5_situationNow_57
    rw [nI_clamp (by omega), s1 17 (by decide), h17]
    refine ⟨pk_in r 6 hr, pk_le (R r).length k (fun z => absurd z (by omega)) (fun _ => t5_cell ?_)⟩
    rw [l4, nI_clamp (by omega), nI_clamp (by omega), s1 0 (by decide), hsrc k _ hx]
    refine ⟨pk_in (44 + 8 * q + k) 148 (by omega), pk_in (4 * r + k) 24 (by omega), fun m10 e10 x11 e11 => ?_⟩
    rw [e11, nI_1]
    refine ih (k + 1) m10 (by omega) (fun a ha => by rw [e10, pu_upn _ _ _ ha]; exact s1 a ha) (fun i hi => by rw [e10, pu_up, pu_un _ _ (by omega)]; exact s2 i hi) (fun j x hj hjx => ?_)
    rw [e10, pu_up]
    by_cases e : j = k
    · subst e
      rw [hx] at hjx
      cases hjx
      rw [pu_u]
    · rw [pu_un _ _ (by omega)]; exact s3 j x (by omega) hjx
def rDn (R : Nat → List Nat) (r : Nat) (m : Mu) : Prop := ∀ r', r' < r → m 17 r' = nI (R r').length ∧ (R r').length ≤ 4 ∧ ∀ (k x : Nat), (R r')[k]? = some x → m 16 (4 * r' + k) = nI x
theorem t5_sn_loop {K : Int32 → Mu → Prop} (hn : n ≤ 3) (h5 : trk len 12 ≤ 5) (hs1 : ∀ l, l < n → 1 ≤ siz l) (hV : sV len siz n a) (hM : rfM len siz ded n a.1 m) (hB : aB a.2 (m 0)) (hK : ∀ m', loS m m' → K (nI (fR len n a)) m') : ∀ d r m1, r + d = 6 → rDn (rws (plc len 12) a.2) r m1 → loS m m1 → lpX5_situationNow_2 K (d + 1) (nI r) m1 := by
  intro d
  induction d with
  | zero =>
    intro r m1 hr hD hS
    have e : r = 6 := by omega
    subst e
    unfold lpX5_situationNow_2
    refine pk_le 6 6 (fun _ => ⟨v148 (i := 13) (by decide), fun m2 e2 => ?_⟩) (fun z => absurd z (by omega))
    rw [c13, hS.1 0 (by decide) (by decide) (by decide), hM.1.2.1] at e2
    have hS2 : loS m m2 := hS.tr (by rw [e2]; exact ⟨fun a _ _ h => pu_upn _ _ _ h, fun i hi => by rw [pu_up, pu_un _ _ hi]⟩)
    refine t5_nb hs1 hn h5 hV (fun r' hr' => ?_) (hM.lo hS2) (by rw [e2, pu_up, pu_u]) (hK m2 hS2)
    rw [e2, pu_upn _ _ _ (by decide), pu_upn _ _ _ (by decide)]
    exact hD r' hr'
  | succ d ih =>
    intro r m1 hr hD hS
    have e13 : m1 32 13 = nI (trk len 12) := by rw [hS.2 13 (by decide)]; exact hM.2.1.1
    have e0 : m1 0 = m 0 := hS.1 0 (by decide) (by decide) (by decide)
    have go : ∀ (q : Nat) (m6 : Mu), q < 13 → m6 = mu_up m1 17 r (nI (rws (plc len 12) a.2 r).length) → (rws (plc len 12) a.2 r).length ≤ 4 → (∀ (k x : Nat), (rws (plc len 12) a.2 r)[k]? = some x → m 0 (44 + 8 * q + k) = nI x) → ∃ n12 : Nat, lpX5_situationNow_57 K (fun a0 mm => lpX5_situationNow_2 K (d + 1) a0 mm) n12 (nI r) (nI q) (0 : Int32) m6 := fun q m6 hq e6 hl4 hsrc => by
      have g6 : ∀ a, a ≠ 17 → m6 a = m1 a := fun a ha => by rw [e6, pu_upn _ _ _ ha]
      refine ⟨(rws (plc len 12) a.2 r).length + 1, ?_⟩
      refine t5_sn_57 (m := m6) (R := rws (plc len 12) a.2) (by omega) hq hl4 (fun k x hx => by rw [g6 0 (by decide), e0]; exact hsrc k x hx) (by rw [e6, pu_up, pu_u]) (fun m' s1 s2 s3 => ih (r + 1) m' (by omega) (fun r' hr' => ?_) (hS.tr ⟨fun a a16 a17 a32 => by rw [s1 a a16, g6 a a17], fun i _ => by rw [s1 32 (by decide), g6 32 (by decide)]⟩)) (rws (plc len 12) a.2 r).length 0 m6 (by omega) (fun _ _ => rfl) (fun _ _ => rfl) (fun j x hj => absurd hj (by omega))
      by_cases e : r' = r
      · subst e
        exact ⟨by rw [s1 17 (by decide), e6, pu_up, pu_u], hl4, s3⟩
      · obtain ⟨w1, w2, w3⟩ := hD r' (by omega)
        refine ⟨by rw [s1 17 (by decide), e6, pu_up, pu_un _ _ e]; exact w1, w2, fun k x hx => ?_⟩
        have := (List.getElem?_eq_some_iff.mp hx).1
        rw [s2 _ (by omega), g6 16 (by decide)]
        exact w3 k x hx
    unfold lpX5_situationNow_2
    refine pk_le 6 r (fun z => absurd z (by omega)) (fun _ => ?_)
    rw [e13]
    refine pk_lt (trk len 12) r (fun z => ?_) (fun z => ⟨pk_in r 6 (by omega), ?_⟩)
    · have hem : rws (plc len 12) a.2 r = [] := by
        unfold rws
        rw [List.getElem?_eq_none (by rw [plc_len]; omega)]
      unfold jnX5_situationNow_27
      rw [e13]
      refine pk_lt (trk len 12) r (fun _ => ⟨pk_in r 6 (by omega), fun m6 e6 => ?_⟩) (fun w => absurd w (by omega))
      rw [nI_clamp (by omega)] at e6
      exact go 12 m6 (by decide) (by rw [hem]; exact e6) (by rw [hem]; exact Nat.zero_le _) (fun k x hx => by rw [hem] at hx; simp at hx)
    · have hx := List.getElem?_eq_getElem (show r < (plc len 12).length by rw [plc_len]; omega)
      have hq := plc_13 _ (List.getElem_mem (show r < (plc len 12).length by rw [plc_len]; omega))
      generalize (plc len 12)[r]'(by rw [plc_len]; omega) = q at hx hq
      have e14 : m1 14 r = nI q := by rw [hS.1 14 (by decide) (by decide) (by decide)]; exact hM.2.1.2.1 r q hx
      rw [nI_clamp (by omega), e14]
      unfold jnX5_situationNow_27
      rw [e13, l31, nI_clamp (by omega), e0]
      obtain ⟨b1, b2, b3⟩ := hB q hq
      refine pk_lt (trk len 12) r (fun w => absurd w (by omega)) (fun _ => ⟨pk_in (31 + q) 148 (by omega), pk_in r 6 (by omega), fun m13 e13' => ?_⟩)
      rw [nI_clamp (by omega), b1] at e13'
      have hrw := rws_at (row := a.2) hx
      have h3 := sV_row hV hq
      exact go q m13 hq (by rw [hrw]; exact e13') (by rw [hrw]; omega) (fun k x hk => by rw [hrw] at hk; exact b3 k x hk)
theorem t5_now {K : Int32 → Mu → Prop} (hn : n ≤ 3) (h5 : trk len 12 ≤ 5) (hs1 : ∀ l, l < n → 1 ≤ siz l) (hV : sV len siz n a) (hM : rfM len siz ded n a.1 m) (hB : aB a.2 (m 0)) (hK : ∀ m', loS m m' → K (nI (fR len n a)) m') : wX5_situationNow m K :=
  ⟨7, t5_sn_loop hn h5 hs1 hV hM hB hK 6 0 m (by decide) (fun r' hr' => absurd hr' (by omega)) loS.rf⟩
/-- the reference's tables hold the distances -/
def rst (len siz : Nat → Nat) (ded : Nat → Bool) (n ang l p : Nat) (A : List Nat) (tu ac : Nat → Nat) (m : Mu) : Prop := lvF (gR len siz n l p) (eR len siz ded n) A tu ac ∧ dnM A tu ac m ∧ rfM len siz ded n ang m
theorem dnM.lo {m m' : Mu} (h : dnM A tu ac m) (e : loS m m') : dnM A tu ac m' := fun s hs => by
  rw [e.1 21 (by decide) (by decide) (by decide), e.1 19 (by decide) (by decide) (by decide), e.1 20 (by decide) (by decide) (by decide)]; exact h s hs
theorem rst.lo {m m' : Mu} (h : rst len siz ded n ang l p A tu ac m) (e : loS m m') : rst len siz ded n ang l p A tu ac m' := ⟨h.1, h.2.1.lo e, h.2.2.lo e⟩
theorem eR_w {r s w : Nat} (h : eR len siz ded n r s w) : w = 1 ∨ w = 10001 := by
  obtain ⟨a, b, -, -, ⟨code, -, e⟩, -⟩ := h
  rw [e]
  rcases wgt_or code with z | z
  · exact Or.inr z
  · exact Or.inl z
theorem dR (hs1 : ∀ l, l < n → 1 ≤ siz l) (hn : n ≤ 3) (h5 : trk len 12 ≤ 5) {e : Nat} (hV : sV len siz n a) : isD (gR len siz n l p) (eR len siz ded n) e (fR len n a) ↔ dD len siz ded n l p e a := push_isD _ _ _ _ (fR_inj hs1 hn h5) hV
theorem rst.d (h : lvF (gR len siz n l p) (eR len siz ded n) A tu ac) (hs1 : ∀ l, l < n → 1 ≤ siz l) (hn : n ≤ 3) (h5 : trk len 12 ≤ 5) (hV : sV len siz n a) : (fR len n a ∈ A ↔ ∃ e, dD len siz ded n l p e a) ∧ (fR len n a ∈ A → dD len siz ded n l p (cst tu ac (fR len n a)) a) := by
  have key : fR len n a ∈ A → dD len siz ded n l p (cst tu ac (fR len n a)) a := fun hA => (dR hs1 hn h5 hV).mp (h.isD _ _ (fun r s w he => eR_w he) hA)
  refine ⟨⟨fun hA => ⟨_, key hA⟩, fun ⟨e, he⟩ => ?_⟩, key⟩
  obtain ⟨k, hk⟩ := ((dR hs1 hn h5 hV).mpr he).1
  exact (h.all _ _ (fun r s w he => eR_w he) k e _ hk).1
theorem t5_ba_loop {K : Int32 → Mu → Prop} (hs1 : ∀ l, l < n → 1 ≤ siz l) (hn : n ≤ 3) (h5 : trk len 12 ≤ 5) (hV : sV len siz n a) (hA : fR len n a ∈ A) (h1 : ∀ code b m', bst len siz ded n l p a code b → loS m m' → K (nI code) m') (h0 : (¬ ∃ code b, bst len siz ded n l p a code b) → ∀ m', loS m m' → K (-11) m') : ∀ d code m1, code + d = 45 → rst len siz ded n ang l p A tu ac m1 → loS m m1 → (∀ code' b, code' < code → act len siz ded code' a b → ¬ ∃ e, dD len siz ded n l p e b ∧ dD len siz ded n l p (e + wgt code') a) → lpX5_bestAction_2 K (d + 1) (nI (fR len n a)) (nI code) m1 := by
  have hfa := fR_lt hs1 hn h5 hV
  have act45 : ∀ code b, act len siz ded code a b → code < 2 ∨ ∃ kd k, isKd kd ∧ 1 ≤ k ∧ k ≤ 3 ∧ code = kd + k := fun code b hact => by
    rcases hact with ⟨e, -⟩ | ⟨e, -⟩ | ⟨kd, k, e, h⟩
    · exact Or.inl (by omega)
    · exact Or.inl (by omega)
    · obtain ⟨s1, s2, s3⟩ := sMv_code hV hn h
      exact Or.inr ⟨kd, k, s1, s2, s3, e⟩
  intro d
  induction d with
  | zero =>
    intro code m1 hc hst hS hno
    have e : code = 45 := by omega
    subst e
    unfold lpX5_bestAction_2
    refine pk_le 45 45 (fun _ => h0 ?_ m1 hS) (fun z => absurd z (by omega))
    rintro ⟨code, b, hb1, hb2, -⟩
    refine hno code b ?_ hb1 hb2
    rcases act45 code b hb1 with z | ⟨kd, k, hk, h1, h3, rfl⟩
    · omega
    · rcases hk with z | z | z | z <;> omega
  | succ d ih =>
    intro code m1 hc hst hS hno
    have nxt : ∀ m2, loS m1 m2 → (∀ b, act len siz ded code a b → ¬ ∃ e, dD len siz ded n l p e b ∧ dD len siz ded n l p (e + wgt code) a) → lpX5_bestAction_2 K (d + 1) (nI (fR len n a)) (nI code + 1) m2 := fun m2 hS2 hb => by
      rw [nI_1]
      refine ih (code + 1) m2 (by omega) (hst.lo hS2) (hS.tr hS2) (fun code' b hlt hact => ?_)
      by_cases e : code' = code
      · subst e; exact hb b hact
      · exact hno code' b (by omega) hact
    have not35 : (¬ (code < 2 ∨ ∃ kd k, isKd kd ∧ 1 ≤ k ∧ k ≤ 3 ∧ code = kd + k)) → jnX5_bestAction_35 K (fun a0 a1 mm => lpX5_bestAction_2 K (d + 1) a0 a1 mm) (nI (fR len n a)) (nI code) m1 := fun hn' => by
      refine ⟨fun _ => ⟨fun _ => ⟨fun _ x6 e6 => ?_, fun z => absurd rfl z⟩, fun z => absurd (by decide) z⟩, fun z => absurd rfl z⟩
      rw [e6]
      exact nxt m1 loS.rf (fun b hact => absurd (act45 code b hact) hn')
    have yes31 : (code < 2 ∨ ∃ kd k, isKd kd ∧ 1 ≤ k ∧ k ≤ 3 ∧ code = kd + k) → jnX5_bestAction_31 K (fun a0 a1 mm => lpX5_bestAction_2 K (d + 1) a0 a1 mm) (nI (fR len n a)) (nI code) m1 := fun hcode => by
      refine ⟨fun z => absurd z (by decide), fun _ => ?_⟩
      refine t5_behind hs1 hn h5 hV hst.2.2 hcode (fun b m20 hact hS20 => ?_) (fun hnone m20 hS20 => ?_)
      · have hVb := act.V hV hact
        have hfb := fR_lt hs1 hn h5 hVb
        have hst20 := hst.lo hS20
        have hdb := rst.d hst20.1 hs1 hn h5 hVb
        have hda := (rst.d hst20.1 hs1 hn h5 hV).2 hA
        have ab := hst20.2.1.at hfb
        have aa := (hst20.2.1.at hfa).2 hA
        obtain ⟨-, ta, aca, -⟩ := hst20.1.1 _ hA
        have skip : (¬ ∃ e, dD len siz ded n l p e b ∧ dD len siz ded n l p (e + wgt code) a) → lpX5_bestAction_2 K (d + 1) (nI (fR len n a)) (nI code + 1) m20 := fun hx => nxt m20 hS20 (fun b' hb' => by rw [act_one hV hn hact hb']; exact hx)
        refine pk_lt (fR len n b) 0 (fun z => absurd z (by omega)) (fun _ => ⟨pk_in _ 4032 hfb, ?_⟩)
        rw [nI_clamp (by omega), nI_clamp (by omega)]
        refine ⟨fun z => ⟨fun _ x9 e9 => ?_, fun z => absurd rfl z⟩, fun z => ?_⟩
        · rw [e9]
          exact skip (fun ⟨e, he, _⟩ => (ab.1.mp z) (hdb.1.mpr ⟨e, he⟩))
        · have hbA : fR len n b ∈ A := by
            cases Decidable.em (fR len n b ∈ A) with
            | inl q => exact q
            | inr q => exact absurd (ab.1.mpr q) z
          obtain ⟨-, tb, acb, -⟩ := hst20.1.1 _ hbA
          have hdb2 := hdb.2 hbA
          have key : (∃ e, dD len siz ded n l p e b ∧ dD len siz ded n l p (e + wgt code) a) ↔ cst tu ac (fR len n b) + wgt code = cst tu ac (fR len n a) := ⟨fun ⟨e, x, y⟩ => by rw [dD_one hdb2 x, ← dD_one y hda], fun e => ⟨_, hdb2, by rw [e]; exact hda⟩⟩
          rw [(ab.2 hbA).1, (ab.2 hbA).2, aa.1, aa.2]
          have found : ac (fR len n b) + 1 = ac (fR len n a) → tu (fR len n b) + (if code < 2 then 1 else 0) = tu (fR len n a) → K (nI code) m20 := fun x y => by
            refine h1 code b m20 ⟨hact, key.mpr ?_, hno⟩ (hS.tr hS20)
            unfold cst wgt
            by_cases hc2 : code < 2
            · rw [if_pos hc2] at y; rw [if_pos (by omega)]; omega
            · rw [if_neg hc2] at y; rw [if_neg (by omega)]; omega
          have miss : ¬ (ac (fR len n b) + 1 = ac (fR len n a) ∧ tu (fR len n b) + (if code < 2 then 1 else 0) = tu (fR len n a)) → lpX5_bestAction_2 K (d + 1) (nI (fR len n a)) (nI code + 1) m20 := fun hx => by
            refine skip (fun he => hx ?_)
            have := key.mp he
            unfold cst wgt at this
            by_cases hc2 : code < 2
            · rw [if_pos (by omega)] at this; rw [if_pos hc2]; omega
            · rw [if_neg (by omega)] at this; rw [if_neg hc2]; omega
          refine ⟨pk_in _ 4032 hfb, pk_in _ 4032 hfa, ?_⟩
          by_cases ha0 : ac (fR len n a) = 0
          · refine ⟨fun e => ?_, fun _ => ⟨fun _ x18 e18 => by rw [e18]; exact miss (fun z => by omega), fun z => absurd rfl z⟩⟩
            rw [ha0] at e
            have h9 : ¬ nI (ac (fR len n b)) < 0 := nI_pos (by omega)
            rw [e] at h9
            exact absurd (by decide) h9
          · rw [nI_m1 (by omega)]
            refine pk_eq (ac (fR len n b)) (ac (fR len n a) - 1) (fun e => ⟨pk_in _ 4032 hfb, pk_in _ 4032 hfa, pk_le 2 code (fun c2 => ?_) (fun c2 => ?_)⟩) (fun e => ⟨fun _ x18 e18 => by rw [e18]; exact miss (fun z => by omega), fun z => absurd rfl z⟩)
            · unfold jnX5_bestAction_110
              rw [Int32.sub_zero]
              rw [if_neg (by omega)] at found miss
              exact pk_eq (tu (fR len n b)) (tu (fR len n a)) (fun e2 => ⟨fun z => absurd z (by decide), fun _ => found (by omega) (by omega)⟩) (fun e2 => ⟨fun _ x16 e16 => by rw [e16]; exact miss (fun z => by omega), fun z => absurd rfl z⟩)
            · unfold jnX5_bestAction_110
              rw [if_pos (by omega)] at found miss
              by_cases ht0 : tu (fR len n a) = 0
              · rw [ht0] at miss ⊢
                refine ⟨fun e2 => ?_, fun _ => ⟨fun _ x16 e16 => by rw [e16]; exact miss (fun z => by omega), fun z => absurd rfl z⟩⟩
                have h9 : ¬ nI (tu (fR len n b)) < 0 := nI_pos (by omega)
                rw [e2] at h9
                exact absurd (by decide) h9
              · rw [nI_m1 (by omega)]
                exact pk_eq (tu (fR len n b)) (tu (fR len n a) - 1) (fun e2 => ⟨fun z => absurd z (by decide), fun _ => found (by omega) (by omega)⟩) (fun e2 => ⟨fun _ x16 e16 => by rw [e16]; exact miss (fun z => by omega), fun z => absurd rfl z⟩)
      · refine ⟨fun _ => ⟨fun _ x6 e6 => ?_, fun z => absurd rfl z⟩, fun z => absurd (by decide) z⟩
        rw [e6]
        exact nxt m20 hS20 (fun b hact => absurd hact (hnone b))
    unfold lpX5_bestAction_2
    refine pk_le 45 code (fun z => absurd z (by omega)) (fun _ => pk_lt code 2 (fun z => yes31 (Or.inl z)) (fun z => ?_))
    rw [rem10 (by omega)]
    by_cases h13 : 1 ≤ code % 10 ∧ code % 10 ≤ 3
    · refine in_yes (nI_nlt (b := 1) (by omega) (by omega)) (nI_nlt (a := 3) (by omega) (by decide)) ⟨fun z => absurd z (by decide), fun _ => pk_le code 10 (fun z2 => not35 ?_) (fun z2 => yes31 (Or.inr ⟨code - code % 10, code % 10, ?_, h13.1, h13.2, by omega⟩))⟩
      · rintro (z3 | ⟨kd, k, hk, h1, h3, e⟩)
        · omega
        · rcases hk with z | z | z | z <;> omega
      · have : code - code % 10 = 10 ∨ code - code % 10 = 20 ∨ code - code % 10 = 30 ∨ code - code % 10 = 40 := by omega
        exact this
    · have hno35 : ¬ (code < 2 ∨ ∃ kd k, isKd kd ∧ 1 ≤ k ∧ k ≤ 3 ∧ code = kd + k) := by
        rintro (z3 | ⟨kd, k, hk, h1, h3, e⟩)
        · omega
        · apply h13
          rcases hk with z | z | z | z <;> omega
      by_cases hlo : code % 10 = 0
      · refine in_lo ?_ ⟨fun _ => not35 hno35, fun z => absurd rfl z⟩
        rw [hlo]; decide
      · exact in_hi (nI_lt (a := 3) (by omega) (by omega)) ⟨fun _ => not35 hno35, fun z => absurd rfl z⟩
theorem t5_best {K : Int32 → Mu → Prop} (hs1 : ∀ l, l < n → 1 ≤ siz l) (hn : n ≤ 3) (h5 : trk len 12 ≤ 5) (hV : sV len siz n a) (hA : fR len n a ∈ A) (hst : rst len siz ded n ang l p A tu ac m) (h1 : ∀ code b m', bst len siz ded n l p a code b → loS m m' → K (nI code) m') (h0 : (¬ ∃ code b, bst len siz ded n l p a code b) → ∀ m', loS m m' → K (-11) m') : wX5_bestAction (nI (fR len n a)) m K :=
  ⟨46, t5_ba_loop hs1 hn h5 hV hA h1 h0 45 0 m (by decide) hst loS.rf (fun code' b h => absurd h (by omega))⟩
end RC
