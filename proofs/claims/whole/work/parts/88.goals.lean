/-! the reference's goals -/
section CB
variable {len siz : Nat → Nat} {ded : Nat → Bool} {n ang l p : Nat} {m : Mu} {R : Nat → List Nat}
/-- rows that can be -/
def cbR (len siz : Nat → Nat) (R : Nat → List Nat) (r : Nat) : Prop := R r = [] ∨ ∃ q, (plc len 12)[r]? = some q ∧ sm siz (R r) ≤ len q
theorem t5_cb_loop {K : Int32 → Prop} (hA : aA len siz ded n ang (m 0)) (hlr : lrM len 12 m) (h5 : trk len 12 ≤ 5) (hR : rR R m) (hrow : ∀ r, r < 6 → ∀ l ∈ R r, l < n) (h1 : (∀ r, r < 6 → cbR len siz R r) → K 1) (h0 : (¬ ∀ r, r < 6 → cbR len siz R r) → K 0) : ∀ d r (b : Bool), r + d = 6 → (b = true → ∀ r', r' < r → cbR len siz R r') → (b = false → ¬ ∀ r, r < 6 → cbR len siz R r) → lpX5_canBe_4 m K (d + 1) (if b then 1 else 0) (nI r) := by
  intro d
  induction d with
  | zero =>
    intro r b hr ht hf
    have e : r = 6 := by omega
    subst e
    unfold lpX5_canBe_4
    refine pk_le 6 6 (fun _ => ?_) (fun z => absurd z (by omega))
    cases b with
    | true => exact ⟨nar1, h1 (ht rfl)⟩
    | false => exact ⟨nar0, h0 (hf rfl)⟩
  | succ d ih =>
    intro r b hr ht hf
    have hno : (¬ cbR len siz R r) → lpX5_canBe_4 m K (d + 1) 0 (nI r + 1) := fun hn => by
      rw [nI_1]
      exact ih (r + 1) false (by omega) (fun z => absurd z (by decide)) (fun _ z => hn (z r (by omega)))
    have hyes : b = true → cbR len siz R r → lpX5_canBe_4 m K (d + 1) 1 (nI r + 1) := fun hb hc => by
      rw [nI_1]
      refine ih (r + 1) true (by omega) (fun _ r' hr' => ?_) (fun z => absurd z (by decide))
      by_cases e : r' = r
      · rw [e]; exact hc
      · exact ht hb r' (by omega)
    obtain ⟨r1, r2, r3⟩ := hR r (by omega)
    unfold lpX5_canBe_4
    refine pk_le 6 r (fun z => absurd z (by omega)) (fun _ => ?_)
    cases b with
    | false =>
      refine ⟨fun _ x3 e3 => ?_, fun z => absurd rfl z⟩
      rw [e3, nI_1]
      exact ih (r + 1) false (by omega) (fun z => absurd z (by decide)) (fun _ => hf rfl)
    | true =>
      refine ⟨fun z => absurd z (by decide), fun _ => ⟨pk_in r 6 (by omega), ?_⟩⟩
      rw [nI_clamp (by omega), r1]
      refine pk_eq (R r).length 0 (fun z x5 e5 => ?_) (fun z => ?_)
      · rw [e5]; exact hyes rfl (Or.inl (List.length_eq_zero_iff.mp z))
      · have hne : R r ≠ [] := fun e => z (by rw [e]; rfl)
        rw [hlr.1]
        refine pk_lt (trk len 12) r (fun z2 x7 e7 => ?_) (fun z2 => ⟨pk_in r 6 (by omega), ?_⟩)
        · rw [e7]
          refine hno (fun hc => ?_)
          rcases hc with w | ⟨q, w, -⟩
          · exact hne w
          · have := (List.getElem?_eq_some_iff.mp w).1
            rw [plc_len] at this
            omega
        · have hx := List.getElem?_eq_getElem (show r < (plc len 12).length by rw [plc_len]; omega)
          have hq := plc_13 _ (List.getElem_mem (show r < (plc len 12).length by rw [plc_len]; omega))
          generalize (plc len 12)[r]'(by rw [plc_len]; omega) = q at hx hq
          have hlq := hA.1 q hq
          refine t5_sum (f := 0) hA hR (by omega) (hrow r (by omega)) (by omega) ⟨pk_in r 6 (by omega), ?_⟩
          have hs4 : sm siz (R r) ≤ 20 * (R r).length := sm_le (fun l hl => (hA.2.2.2.2.1 l (hrow r (by omega) l hl)).2.2)
          rw [hlr.2.1 r q hx, l0, nI_clamp (by omega), hlq.1, List.drop_zero, List.take_length]
          refine ⟨pk_in q 148 (by omega), pk_lt (len q) (sm siz (R r)) (fun w x10 e10 => ?_) (fun w x11 e11 => ?_)⟩
          · rw [e10]
            refine hno (fun hc => ?_)
            rcases hc with v | ⟨q', v, v2⟩
            · exact hne v
            · rw [hx] at v
              cases v
              omega
          · rw [e11]; exact hyes rfl (Or.inr ⟨q, hx, w⟩)
theorem t5_canBe {K : Int32 → Prop} (hA : aA len siz ded n ang (m 0)) (hlr : lrM len 12 m) (h5 : trk len 12 ≤ 5) (hR : rR R m) (hrow : ∀ r, r < 6 → ∀ l ∈ R r, l < n) (h1 : (∀ r, r < 6 → cbR len siz R r) → K 1) (h0 : (¬ ∀ r, r < 6 → cbR len siz R r) → K 0) : wX5_canBe m K :=
  ⟨7, t5_cb_loop hA hlr h5 hR hrow h1 h0 6 0 true (by decide) (fun _ r' hr' => absurd hr' (by omega)) (fun z => absurd z (by decide))⟩
theorem t5_isGoal {K : Int32 → Prop} (hlr : lrM len 12 m) (h5 : trk len 12 ≤ 5) (hR : rR R m) (hp : p < 12) (hl : 0 < len p) (hln : l < 8) (hrow : ∀ r, r < 6 → ∀ l ∈ R r, l < 8) (h1 : (R (rowOf len p))[0]? = some l → K 1) (h0 : ¬ (R (rowOf len p))[0]? = some l → K 0) : wX5_isGoal (nI l) (nI p) m K := by
  have hx := plc_at hp hl
  have ht := (List.getElem?_eq_some_iff.mp hx).1
  rw [plc_len] at ht
  obtain ⟨r1, r2, r3⟩ := hR (rowOf len p) (by omega)
  refine ⟨pk_in p 13 (by omega), fun x1 e1 => ?_⟩
  rw [nI_clamp (by omega), hlr.2.2.2 p hp] at e1
  rw [e1]
  refine ⟨pk_in _ 6 (show rowOf len p < 6 by omega), ?_⟩
  rw [nI_clamp (by omega), r1]
  refine pk_le (R (rowOf len p)).length 0 (fun z => h0 (fun w => ?_)) (fun z => ?_)
  · have := (List.getElem?_eq_some_iff.mp w).1
    omega
  · have h00 := List.getElem?_eq_getElem (show 0 < (R (rowOf len p)).length by omega)
    have hv := r3 0 _ h00
    have h8 := hrow _ (show rowOf len p < 6 by omega) _ (List.getElem_mem (show 0 < (R (rowOf len p)).length by omega))
    rw [show (4 : Int32) = nI 4 from rfl, pk_mul, nI_clamp (by omega), ← Nat.add_zero (4 * rowOf len p), hv]
    refine ⟨pk_in _ 24 (show 4 * rowOf len p + 0 < 24 by omega), pk_eq ((R (rowOf len p))[0]'(by omega)) l (fun w => h1 (by rw [h00, w])) (fun w => h0 (fun v => ?_))⟩
    rw [h00] at v
    exact w (Option.some.inj v)
/-- rows by number make a situation -/
theorem sit_of {c wc x : Nat} (hn : n ≤ 3) (h5 : trk len 12 ≤ 5) (h12 : 0 < len 12) (hc : c < 4 ^ n) (hv : vo n c = true) (hwc : wc < 15625) (hvw : vw n wc = true) (hx : x < 12) (hcb : ∀ r, r < 6 → cbR len siz (sg (dl 4 n c) (dl 5 6 wc)) r) : sV len siz n (x, rowP (plc len 12) (sg (dl 4 n c) (dl 5 6 wc))) ∧ fR len n (x, rowP (plc len 12) (sg (dl 4 n c) (dl 5 6 wc))) = (fb_ct (vo n) c * 56 + fb_ct (vw n) wc) * 12 + x ∧ ∀ r q, (plc len 12)[r]? = some q → rowP (plc len 12) (sg (dl 4 n c) (dl 5 6 wc)) q = sg (dl 4 n c) (dl 5 6 wc) r := by
  have h6 : (plc len 12).length ≤ 6 := by rw [plc_len]; omega
  have hsum := vw_iff.mp hvw
  have hsl : (dl 5 6 wc).sum ≤ (dl 4 n c).length := by rw [hsum, dl_len]; exact Nat.le_refl _
  have er : ∀ r, r < 6 → rws (plc len 12) (rowP (plc len 12) (sg (dl 4 n c) (dl 5 6 wc))) r = sg (dl 4 n c) (dl 5 6 wc) r := fun r hr => by
    by_cases h : r < (plc len 12).length
    · exact rws_rowP plc_nodup h
    · unfold rws
      rw [List.getElem?_eq_none (by omega)]
      rcases hcb r hr with z | ⟨q, z, -⟩
      · exact z.symm
      · rw [List.getElem?_eq_none (by omega)] at z
        exact absurd z (by simp)
  have eC : (plc len 12).flatMap (rowP (plc len 12) (sg (dl 4 n c) (dl 5 6 wc))) = dl 4 n c := by
    rw [← pre_all h6, pre_cong 6 er, pre_sg hsl 6 (by rw [dl_len]; exact Nat.le_refl _), List.take_of_length_le (l := dl 5 6 wc) (by rw [dl_len]; exact Nat.le_refl _), hsum, List.take_of_length_le (by rw [dl_len]; exact Nat.le_refl _)]
  have eD : dls (rws (plc len 12) (rowP (plc len 12) (sg (dl 4 n c) (dl 5 6 wc)))) 6 = dl 5 6 wc := by
    rw [dls_cong 6 er, dls_sg hsl 6 (by rw [dl_len]; exact Nat.le_refl _), List.take_of_length_le (by rw [dl_len]; exact Nat.le_refl _)]
  have at_ : ∀ r q, (plc len 12)[r]? = some q → rowP (plc len 12) (sg (dl 4 n c) (dl 5 6 wc)) q = sg (dl 4 n c) (dl 5 6 wc) r := fun r q hq => by
    have hr := (List.getElem?_eq_some_iff.mp hq).1
    have := er r (by omega)
    rw [rws_at hq] at this
    exact this
  obtain ⟨v1, v2, v3⟩ := (vo_iff hn hc).mp hv
  refine ⟨⟨wf_ofF (wfF_ofC (by rw [eC]; exact v1) (by rw [eC]; exact v2) (by rw [eC]; exact v3)) plc_13 (fun q hq => rowP_off hq) (fun q _ => ?_) hx (by omega) h12, fun q hq => rowP_off (fun z => by have := plc_13 q z; omega)⟩, ?_, at_⟩
  · show sm siz (rowP (plc len 12) (sg (dl 4 n c) (dl 5 6 wc)) q) ≤ len q
    by_cases hq : q ∈ plc len 12
    · obtain ⟨r, hr, e⟩ := List.getElem_of_mem hq
      have hg : (plc len 12)[r]? = some q := by rw [List.getElem?_eq_getElem hr, e]
      rw [at_ r q hg]
      rcases hcb r (by omega) with z | ⟨q', z, z2⟩
      · rw [z]; exact Nat.zero_le _
      · rw [hg] at z
        cases z
        exact z2
    · rw [rowP_off hq]; exact Nat.zero_le _
  · unfold fR
    rw [eC, eD, cdg_dl (by decide) n c hc, cdg_dl (b := 5) (by decide) 6 wc hwc]
/-- and a situation's number gives its rows -/
theorem sit_rows {c wc : Nat} {a : Sit} (hs1 : ∀ l, l < n → 1 ≤ siz l) (hn : n ≤ 3) (h5 : trk len 12 ≤ 5) (hc : c < 4 ^ n) (hv : vo n c = true) (hwc : wc < 15625) (hvw : vw n wc = true) (hV : sV len siz n a) (e : fR len n a / 12 = fb_ct (vo n) c * 56 + fb_ct (vw n) wc) : ∀ r, r < 6 → sg (dl 4 n c) (dl 5 6 wc) r = rws (plc len 12) a.2 r := by
  have h6 : (plc len 12).length ≤ 6 := by rw [plc_len]; omega
  obtain ⟨g1, g2, g3, g4, g5, g6⟩ := codes_of plc_ne h6 hn (sV_F hs1 hV)
  have ha := hV.1.2.2.2.2.2.1
  have w1 := ct_lt g5 g4
  have w2 := ct_lt hvw hwc
  have w3 := vw_bound hn
  unfold fR at e
  have e1 : fb_ct (vo n) (cdg 4 ((plc len 12).flatMap a.2)) = fb_ct (vo n) c := by omega
  have e2 : fb_ct (vw n) (cdg 5 (dls (rws (plc len 12) a.2) 6)) = fb_ct (vw n) wc := by omega
  have e3 := fb_ct_kth_one g2 hv e1
  have e4 := fb_ct_kth_one g5 hvw e2
  intro r hr
  rw [← e3, ← e4, g3, g6, ← pre_all h6]
  exact sg_pre hr
end CB
