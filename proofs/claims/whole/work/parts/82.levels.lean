/-! behind = act, all codes -/
section BB
variable {len siz : Nat → Nat} {ded : Nat → Bool} {n ang : Nat} {m : Mu} {K : Int32 → Mu → Prop} {a : Sit}
theorem fR_mod (hV : sV len siz n a) : fR len n a % 12 = a.1 ∧ a.1 ≤ fR len n a := by
  have ha := hV.1.2.2.2.2.2.1
  unfold fR
  omega
theorem t5_b63 {kd k e : Nat} {v4 : Int32} (hs1 : ∀ l, l < n → 1 ≤ siz l) (hn : n ≤ 3) (h5 : trk len 12 ≤ 5) (hV : sV len siz n a) (hM : rfM len siz ded n ang m) (hk : isKd kd) (hk1 : 1 ≤ k) (hk3 : k ≤ 3) (he : posOf kd a.1 = (a.1 + 6 * e) % 12) (he2 : e < 2) (h112 : ∀ m' t, rfM len siz ded n ang m' → rR (rws (plc len 12) a.2) m' → m' 32 18 = nI a.1 → loS m m' → 0 < len (posOf kd a.1) → rowOf len (posOf kd a.1) = t → ((v4 = 0 → jnX5_behind_112 K v4 (nI e) (nI k) (nI t) (0 : Int32) m') ∧ (¬ v4 = 0 → jnX5_behind_112 K v4 (nI e) (nI k) (nI t) (nI t) m'))) (h0 : (∀ b, ¬ sMv len siz ded kd k a b) → K (-11) m) : jnX5_behind_63 K (nI (fR len n a)) (nI (kd + k)) (nI a.1) v4 (nI e) m := by
  have ha := hV.1.2.2.2.2.2.1
  have hkd : kd ≤ 40 ∧ kd % 10 = 0 := by rcases hk with rfl | rfl | rfl | rfl <;> decide
  have hpos := posOf_lt (kd := kd) ha
  intro x5 e5
  rw [rem10 (by omega), show (kd + k) % 10 = k by omega] at e5
  rw [show (6 : Int32) = nI 6 from rfl, pk_mul, nI_add, rem12 (by omega), ← he, nI_clamp (by omega), hM.2.1.2.2.2 _ hpos]
  refine ⟨pk_in (posOf kd a.1) 13 (by omega), fun x6 e6 => ?_⟩
  rw [e6, e5]
  have hr : rowOf len (posOf kd a.1) < 13 := by
    unfold rowOf
    have := trk_le len (posOf kd a.1)
    split <;> omega
  refine pk_eq (rowOf len (posOf kd a.1)) 0 (fun z => h0 (fun b hb => ?_)) (fun z => ?_)
  · have := hb.2.2.2.1
    unfold rowOf at z
    rw [if_pos this] at z
    omega
  · have hl : 0 < len (posOf kd a.1) := by
      rcases Nat.eq_zero_or_pos (len (posOf kd a.1)) with w | w
      · unfold rowOf at z; rw [if_neg (by omega)] at z; exact absurd rfl z
      · exact w
    exact t5_lay hs1 hn h5 hV hM (fun m' g1 g2 g3 => h112 m' _ (hM.lo g3) g1 g2 g3 hl rfl)
theorem t5_behind {code : Nat} (hs1 : ∀ l, l < n → 1 ≤ siz l) (hn : n ≤ 3) (h5 : trk len 12 ≤ 5) (hV : sV len siz n a) (hM : rfM len siz ded n ang m) (hcode : code < 2 ∨ ∃ kd k, isKd kd ∧ 1 ≤ k ∧ k ≤ 3 ∧ code = kd + k) (h1 : ∀ b m', act len siz ded code a b → loS m m' → K (nI (fR len n b)) m') (h0 : (∀ b, ¬ act len siz ded code a b) → ∀ m', loS m m' → K (-11) m') : wX5_behind (nI (fR len n a)) (nI code) m K := by
  have ha := hV.1.2.2.2.2.2.1
  obtain ⟨f1, f2⟩ := fR_mod hV
  have f3 := fR_lt hs1 hn h5 hV
  intro x1 e1
  rw [rem12 (by omega), f1] at e1
  subst e1
  rcases hcode with hc | ⟨kd, k, hk, hk1, hk3, rfl⟩
  · refine pk_le 2 code (fun z => absurd z (by omega)) (fun _ => ?_)
    have tn : ∀ x, x < 12 → nI (fR len n a) - nI a.1 + nI x = nI (fR len n (x, a.2)) := fun x hx => by
      rw [pk_sub f2, nI_add]
      congr 1
      unfold fR
      show _ = (fb_ct (vo n) (cdg 4 ((plc len 12).flatMap a.2)) * 56 + fb_ct (vw n) (cdg 5 (dls (rws (plc len 12) a.2) 6))) * 12 + x
      omega
    rw [nI_1, show (11 : Int32) = nI 11 from rfl, nI_add, rem12 (by omega), rem12 (by omega), tn _ (Nat.mod_lt _ (by decide)), tn _ (Nat.mod_lt _ (by decide))]
    refine pk_eq code 0 (fun z => h1 _ m (Or.inl ⟨z, rfl⟩) loS.rf) (fun z => h1 _ m (Or.inr (Or.inl ⟨by omega, rfl⟩)) loS.rf)
  · have hkd : 10 ≤ kd ∧ kd ≤ 40 := by rcases hk with rfl | rfl | rfl | rfl <;> decide
    have g0 : ∀ m', loS m m' → (∀ b, ¬ sMv len siz ded kd k a b) → K (-11) m' := fun m' hs hno => h0 (fun b hb => hno b (act_mv hV hn hk hk1 (by omega) hb)) m' hs
    have g1 : ∀ m', loS m m' → ∀ b m'', sMv len siz ded kd k a b → loS m' m'' → K (nI (fR len n b)) m'' := fun m' hs b m'' hb hs' => h1 b m'' (Or.inr (Or.inr ⟨kd, k, rfl, hb⟩)) (hs.tr hs')
    have d10 : nI (kd + k) / (10 : Int32) = nI ((kd + k) / 10) := pk_div (by omega) (by decide) (by decide)
    refine pk_le 2 (kd + k) (fun _ => pk_le 30 (kd + k) (fun z => ?_) (fun z => ?_)) (fun z => absurd z (by omega))
    · refine ⟨fun _ => ?_, fun z => absurd rfl z⟩
      rw [d10]
      rcases hk with rfl | rfl | rfl | rfl
      · omega
      · omega
      · rw [show (30 + k) / 10 = 3 by omega]
        refine t5_b63 (kd := 30) (e := 0) hs1 hn h5 hV hM (Or.inr (Or.inr (Or.inl rfl))) hk1 hk3 (pos_eq (e := 0) (b := 30) (by decide) ha (Or.inr rfl)) (by decide) (fun m' t q1 q2 q3 q4 q5 q6 => ⟨fun _ => ⟨fun _ => ?_, fun z => absurd rfl z⟩, fun z => absurd rfl z⟩) (g0 m loS.rf)
        exact t5_b125_30 hs1 hn h5 hV q1 q2 q3 hk1 hk3 q5 q6 (g1 m' q4) (g0 m' q4)
      · rw [show (40 + k) / 10 = 4 by omega]
        refine t5_b63 (kd := 40) (e := 1) hs1 hn h5 hV hM (Or.inr (Or.inr (Or.inr rfl))) hk1 hk3 (pos_eq (e := 1) (b := 30) (by decide) ha (Or.inr rfl)) (by decide) (fun m' t q1 q2 q3 q4 q5 q6 => ⟨fun _ => ⟨fun _ => ?_, fun z => absurd rfl z⟩, fun z => absurd rfl z⟩) (g0 m loS.rf)
        exact t5_b125_40 hs1 hn h5 hV q1 q2 q3 hk1 hk3 q5 q6 (g1 m' q4) (g0 m' q4)
    · refine ⟨fun z => absurd z (by decide), fun _ => ?_⟩
      rw [d10]
      rcases hk with rfl | rfl | rfl | rfl
      · rw [show (10 + k) / 10 = 1 by omega]
        refine t5_b63 (kd := 10) (e := 0) hs1 hn h5 hV hM (Or.inl rfl) hk1 hk3 (pos_eq (e := 0) (b := 10) (by decide) ha (Or.inl rfl)) (by decide) (fun m' t q1 q2 q3 q4 q5 q6 => ⟨fun z => absurd z (by decide), fun _ => ⟨fun z => absurd z (by decide), fun _ => ?_⟩⟩) (g0 m loS.rf)
        exact t5_b125_10 hs1 hn h5 hV q1 q2 q3 hk1 hk3 q5 q6 (g1 m' q4) (g0 m' q4)
      · rw [show (20 + k) / 10 = 2 by omega]
        refine t5_b63 (kd := 20) (e := 1) hs1 hn h5 hV hM (Or.inr (Or.inl rfl)) hk1 hk3 (pos_eq (e := 1) (b := 10) (by decide) ha (Or.inl rfl)) (by decide) (fun m' t q1 q2 q3 q4 q5 q6 => ⟨fun z => absurd z (by decide), fun _ => ⟨fun z => absurd z (by decide), fun _ => ?_⟩⟩) (g0 m loS.rf)
        exact t5_b125_20 hs1 hn h5 hV q1 q2 q3 hk1 hk3 q5 q6 (g1 m' q4) (g0 m' q4)
      · omega
      · omega
end BB
