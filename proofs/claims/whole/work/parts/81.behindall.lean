/-! behind = act -/
section BA
variable {len siz : Nat → Nat} {ded : Nat → Bool} {n ang : Nat} {m : Mu} {K : Int32 → Mu → Prop} {a b : Sit} {kd k t : Nat}
theorem rR.cong {R R' : Nat → List Nat} {m : Mu} (h : rR R m) (e : ∀ r, r < 6 → R r = R' r) : rR R' m := fun r hr => by rw [← e r hr]; exact h r hr
theorem sV_two (hV : sV len siz n a) {p q : Nat} (hp : p < 13) (hq : q < 13) (hne : p ≠ q) : (a.2 p).length + (a.2 q).length ≤ n := by
  have := few n (a.2 p ++ a.2 q) (List.nodup_append.mpr ⟨hV.1.2.1 p hp, hV.1.2.1 q hq, fun x hx y hy e => hne (hV.1.2.2.1 p q x hp hq hx (e ▸ hy))⟩) (fun x hx => by
    rcases List.mem_append.mp hx with z | z
    · exact hV.1.1 p hp x z
    · exact hV.1.1 q hq x z)
  simpa using this
theorem t5_nb {K : Int32 → Prop} (hs1 : ∀ l, l < n → 1 ≤ siz l) (hn : n ≤ 3) (h5 : trk len 12 ≤ 5) (hV : sV len siz n b) (hR : rR (rws (plc len 12) b.2) m) (hM : rfM len siz ded n ang m) (h18 : m 32 18 = nI b.1) (hK : K (nI (fR len n b))) : wX5_numberOf m K := by
  have h6 : (plc len 12).length ≤ 6 := by rw [plc_len]; omega
  obtain ⟨g1, g2, g3, g4, g5, g6⟩ := codes_of plc_ne h6 hn (sV_F hs1 hV)
  have ep := pre_all (row := b.2) h6
  refine t5_numberOf hn hR hM.2.2.1 hM.2.2.2 (by rw [ep]; exact g1) (by rw [ep]; exact g2) g4 g5 h18 ?_
  rw [ep]; exact hK
theorem t5_lay {K : Mu → Prop} (hs1 : ∀ l, l < n → 1 ≤ siz l) (hn : n ≤ 3) (h5 : trk len 12 ≤ 5) (hV : sV len siz n a) (hM : rfM len siz ded n ang m) (hK : ∀ m', rR (rws (plc len 12) a.2) m' → m' 32 18 = nI a.1 → loS m m' → K m') : wX5_layOut (nI (fR len n a)) m K := by
  have h6 : (plc len 12).length ≤ 6 := by rw [plc_len]; omega
  obtain ⟨g1, g2, g3, g4, g5, g6⟩ := codes_of plc_ne h6 hn (sV_F hs1 hV)
  refine t5_layOut hn hM.2.2.1 hM.2.2.2 g1 g2 g4 g5 hV.1.2.2.2.2.2.1 (fun m' h1 h2 h3 => hK m' (h1.cong (fun r hr => ?_)) h2 h3)
  rw [g3, g6, ← pre_all h6]
  exact sg_pre hr
theorem mvErr_seg {sp tp f : Nat} {row : Nat → List Nat} {x : Nat} (hsp : srcOf kd x = sp) (htp : tgtOf kd x = tp) (hs : seg row sp f k = mvd kd x row k) : mvErr len siz ded row kd x k = 0 ↔ ¬ (seg row sp f k).all ded = true ∧ ¬ len tp < sm siz (row tp) + sm siz (seg row sp f k) := by
  unfold mvErr
  rw [htp, ← hs]
  by_cases h1 : (seg row sp f k).all ded = true
  · rw [if_pos h1]; exact ⟨fun z => absurd z (by decide), fun z => absurd h1 z.1⟩
  · rw [if_neg h1]
    by_cases h2 : len tp < sm siz (row tp) + sm siz (seg row sp f k)
    · rw [if_pos h2]; exact ⟨fun z => absurd z (by decide), fun z => absurd h2 z.2⟩
    · rw [if_neg h2]; exact ⟨fun _ => ⟨h1, h2⟩, fun _ => rfl⟩
theorem t5_b125_10 (hs1 : ∀ l, l < n → 1 ≤ siz l) (hn : n ≤ 3) (h5 : trk len 12 ≤ 5) (hV : sV len siz n a) (hM : rfM len siz ded n ang m) (hR : rR (rws (plc len 12) a.2) m) (h18 : m 32 18 = nI a.1) (hk1 : 1 ≤ k) (hk3 : k ≤ 3) (hl : 0 < len (posOf 10 a.1)) (ht : rowOf len (posOf 10 a.1) = t) (h1 : ∀ b m', sMv len siz ded 10 k a b → loS m m' → K (nI (fR len n b)) m') (h0 : (∀ b, ¬ sMv len siz ded 10 k a b) → K (-11) m) : jnX5_behind_125 K 1 0 (nI k) (nI t) 0 m := by
  have hk : isKd 10 := Or.inl rfl
  have ha := hV.1.2.2.2.2.2.1
  have hpos := posOf_lt (kd := 10) ha
  have hP := plc_nodup (len := len)
  have htP : (plc len 12)[t]? = some (posOf 10 a.1) := by rw [← ht]; exact plc_at hpos hl
  have ht6 : t < 6 := by
    have := (List.getElem?_eq_some_iff.mp htP).1
    rw [plc_len] at this
    omega
  have h2 := sV_two hV (p := posOf 10 a.1) (q := 12) (by omega) (by decide) (by omega)
  have hrow : ∀ p, p < 13 → ∀ l ∈ a.2 p, l < n := hV.1.1
  obtain ⟨r1, r2, r3⟩ := hR t ht6
  rw [rws_at htP] at r1
  have r0 := rR_0 hR plc_0
  have fin1 : ∀ m', mvErr len siz ded a.2 10 a.1 k = 0 → k ≤ (a.2 (posOf 10 a.1)).length → rR (rws (plc len 12) (mvA 10 (posOf 10 a.1) a.2 k)) m' → hS m m' → wX5_numberOf m' (fun r => K r m') := fun m' he hle hR' hS' => by
    have hmv : sMv len siz ded 10 k a (a.1, mvA 10 (posOf 10 a.1) a.2 k) := ⟨hk, hk1, hle, hl, he, rfl⟩
    refine t5_nb hs1 hn h5 (hmv.V hV) hR' (hM.lo hS'.lo) ?_ (h1 _ m' hmv hS'.lo)
    rw [hS' 32 (by decide) (by decide)]; exact h18
  unfold jnX5_behind_125
  rw [nI_clamp (n := t) (by omega), r1]
  refine ⟨pk_in t 6 (by omega), pk_le k (a.2 (posOf 10 a.1)).length (fun hle => ?_) (fun hgt => h0 (fun b hb => ?_))⟩
  · have hs : seg a.2 (posOf 10 a.1) 0 k = mvd 10 a.1 a.2 k := seg_mv0 hk (by decide)
    have hme := mvErr_seg (len := len) (siz := siz) (ded := ded) (kd := 10) (k := k) (x := a.1) (sp := (posOf 10 a.1)) (tp := 12) (row := a.2) rfl rfl hs
    have := t5_b_174 (K := K) (v4 := 1) (v5 := 0) (s := t) (t := 0) (f := 0) (k := k) hM.1 hM.2.1.2.1 hR hrow (by omega) (by omega) htP plc_0 (by omega) (by omega) (by omega) (fun hh => h0 (fun b hb => by
      have := hme.mp hb.2.2.2.2.1
      rcases hh with z | z
      · exact this.1 z
      · exact this.2 z)) (fun g1 g2 => ⟨k + 1, t5_b_in0 hP plc_0 hpos htP ht6 hle (by omega) (fun m' hR' hS' => fin1 m' (hme.mpr ⟨g1, g2⟩) hle hR' hS') k 0 m (by omega) (by rw [mvA0 _ hpos]; exact hR) hS.rf⟩) k 0 (by omega)
    rw [show (seg a.2 (posOf 10 a.1) 0 0).all ded = true from by simp [seg]] at this
    exact ⟨fun z => absurd z (by decide), fun _ => ⟨k + 1, this⟩⟩
  · have : k ≤ (a.2 (posOf 10 a.1)).length := hb.2.2.1
    omega
theorem t5_b125_20 (hs1 : ∀ l, l < n → 1 ≤ siz l) (hn : n ≤ 3) (h5 : trk len 12 ≤ 5) (hV : sV len siz n a) (hM : rfM len siz ded n ang m) (hR : rR (rws (plc len 12) a.2) m) (h18 : m 32 18 = nI a.1) (hk1 : 1 ≤ k) (hk3 : k ≤ 3) (hl : 0 < len (posOf 20 a.1)) (ht : rowOf len (posOf 20 a.1) = t) (h1 : ∀ b m', sMv len siz ded 20 k a b → loS m m' → K (nI (fR len n b)) m') (h0 : (∀ b, ¬ sMv len siz ded 20 k a b) → K (-11) m) : jnX5_behind_125 K 1 1 (nI k) (nI t) 0 m := by
  have hk : isKd 20 := Or.inr (Or.inl rfl)
  have ha := hV.1.2.2.2.2.2.1
  have hpos := posOf_lt (kd := 20) ha
  have hP := plc_nodup (len := len)
  have htP : (plc len 12)[t]? = some (posOf 20 a.1) := by rw [← ht]; exact plc_at hpos hl
  have ht6 : t < 6 := by
    have := (List.getElem?_eq_some_iff.mp htP).1
    rw [plc_len] at this
    omega
  have h2 := sV_two hV (p := posOf 20 a.1) (q := 12) (by omega) (by decide) (by omega)
  have hrow : ∀ p, p < 13 → ∀ l ∈ a.2 p, l < n := hV.1.1
  obtain ⟨r1, r2, r3⟩ := hR t ht6
  rw [rws_at htP] at r1
  have r0 := rR_0 hR plc_0
  have fin1 : ∀ m', mvErr len siz ded a.2 20 a.1 k = 0 → k ≤ (a.2 (posOf 20 a.1)).length → rR (rws (plc len 12) (mvA 20 (posOf 20 a.1) a.2 k)) m' → hS m m' → wX5_numberOf m' (fun r => K r m') := fun m' he hle hR' hS' => by
    have hmv : sMv len siz ded 20 k a (a.1, mvA 20 (posOf 20 a.1) a.2 k) := ⟨hk, hk1, hle, hl, he, rfl⟩
    refine t5_nb hs1 hn h5 (hmv.V hV) hR' (hM.lo hS'.lo) ?_ (h1 _ m' hmv hS'.lo)
    rw [hS' 32 (by decide) (by decide)]; exact h18
  unfold jnX5_behind_125
  rw [nI_clamp (n := t) (by omega), r1]
  refine ⟨pk_in t 6 (by omega), pk_le k (a.2 (posOf 20 a.1)).length (fun hle => ?_) (fun hgt => h0 (fun b hb => ?_))⟩
  · have hs : seg a.2 (posOf 20 a.1) 0 k = mvd 20 a.1 a.2 k := seg_mv0 hk (by decide)
    have hme := mvErr_seg (len := len) (siz := siz) (ded := ded) (kd := 20) (k := k) (x := a.1) (sp := (posOf 20 a.1)) (tp := 12) (row := a.2) rfl rfl hs
    have := t5_b_174 (K := K) (v4 := 1) (v5 := 1) (s := t) (t := 0) (f := 0) (k := k) hM.1 hM.2.1.2.1 hR hrow (by omega) (by omega) htP plc_0 (by omega) (by omega) (by omega) (fun hh => h0 (fun b hb => by
      have := hme.mp hb.2.2.2.2.1
      rcases hh with z | z
      · exact this.1 z
      · exact this.2 z)) (fun g1 g2 => ⟨k + 1, t5_b_in1 hP plc_0 hpos htP ht6 hle (by omega) (fun m' hR' hS' => fin1 m' (hme.mpr ⟨g1, g2⟩) hle hR' hS') k 0 m (by omega) (by rw [mvA0 _ hpos]; exact hR) hS.rf⟩) k 0 (by omega)
    rw [show (seg a.2 (posOf 20 a.1) 0 0).all ded = true from by simp [seg]] at this
    exact ⟨fun z => absurd z (by decide), fun _ => ⟨k + 1, this⟩⟩
  · have : k ≤ (a.2 (posOf 20 a.1)).length := hb.2.2.1
    omega
theorem t5_b125_30 (hs1 : ∀ l, l < n → 1 ≤ siz l) (hn : n ≤ 3) (h5 : trk len 12 ≤ 5) (hV : sV len siz n a) (hM : rfM len siz ded n ang m) (hR : rR (rws (plc len 12) a.2) m) (h18 : m 32 18 = nI a.1) (hk1 : 1 ≤ k) (hk3 : k ≤ 3) (hl : 0 < len (posOf 30 a.1)) (ht : rowOf len (posOf 30 a.1) = t) (h1 : ∀ b m', sMv len siz ded 30 k a b → loS m m' → K (nI (fR len n b)) m') (h0 : (∀ b, ¬ sMv len siz ded 30 k a b) → K (-11) m) : jnX5_behind_125 K 0 0 (nI k) 0 (nI t) m := by
  have hk : isKd 30 := Or.inr (Or.inr (Or.inl rfl))
  have ha := hV.1.2.2.2.2.2.1
  have hpos := posOf_lt (kd := 30) ha
  have hP := plc_nodup (len := len)
  have htP : (plc len 12)[t]? = some (posOf 30 a.1) := by rw [← ht]; exact plc_at hpos hl
  have ht6 : t < 6 := by
    have := (List.getElem?_eq_some_iff.mp htP).1
    rw [plc_len] at this
    omega
  have h2 := sV_two hV (p := posOf 30 a.1) (q := 12) (by omega) (by decide) (by omega)
  have hrow : ∀ p, p < 13 → ∀ l ∈ a.2 p, l < n := hV.1.1
  obtain ⟨r1, r2, r3⟩ := hR t ht6
  rw [rws_at htP] at r1
  have r0 := rR_0 hR plc_0
  have fin1 : ∀ m', mvErr len siz ded a.2 30 a.1 k = 0 → k ≤ (a.2 12).length → rR (rws (plc len 12) (mvA 30 (posOf 30 a.1) a.2 k)) m' → hS m m' → wX5_numberOf m' (fun r => K r m') := fun m' he hle hR' hS' => by
    have hmv : sMv len siz ded 30 k a (a.1, mvA 30 (posOf 30 a.1) a.2 k) := ⟨hk, hk1, hle, hl, he, rfl⟩
    refine t5_nb hs1 hn h5 (hmv.V hV) hR' (hM.lo hS'.lo) ?_ (h1 _ m' hmv hS'.lo)
    rw [hS' 32 (by decide) (by decide)]; exact h18
  unfold jnX5_behind_125
  rw [show ((0 : Int32)).toNatClampNeg = 0 from rfl, r0]
  refine ⟨pk_in 0 6 (by omega), pk_le k (a.2 12).length (fun hle => ?_) (fun hgt => h0 (fun b hb => ?_))⟩
  · have hs : seg a.2 12 0 k = mvd 30 a.1 a.2 k := seg_mv0 hk (by decide)
    have hme := mvErr_seg (len := len) (siz := siz) (ded := ded) (kd := 30) (k := k) (x := a.1) (sp := 12) (tp := (posOf 30 a.1)) (row := a.2) rfl rfl hs
    have := t5_b_174 (K := K) (v4 := 0) (v5 := 0) (s := 0) (t := t) (f := 0) (k := k) hM.1 hM.2.1.2.1 hR hrow (by omega) (by omega) plc_0 htP (by omega) (by omega) (by omega) (fun hh => h0 (fun b hb => by
      have := hme.mp hb.2.2.2.2.1
      rcases hh with z | z
      · exact this.1 z
      · exact this.2 z)) (fun g1 g2 => ⟨k + 1, t5_b_out0 hP plc_0 hpos htP ht6 hle (by omega) (fun m' hR' hS' => fin1 m' (hme.mpr ⟨g1, g2⟩) hle hR' hS') k 0 m (by omega) (by rw [goA0 _ hle]; exact hR) hS.rf⟩) k 0 (by omega)
    rw [show (seg a.2 12 0 0).all ded = true from by simp [seg]] at this
    exact ⟨fun _ => ⟨fun _ => ⟨k + 1, this⟩, fun z => absurd rfl z⟩, fun z => absurd rfl z⟩
  · have : k ≤ (a.2 12).length := hb.2.2.1
    omega
theorem t5_b125_40 (hs1 : ∀ l, l < n → 1 ≤ siz l) (hn : n ≤ 3) (h5 : trk len 12 ≤ 5) (hV : sV len siz n a) (hM : rfM len siz ded n ang m) (hR : rR (rws (plc len 12) a.2) m) (h18 : m 32 18 = nI a.1) (hk1 : 1 ≤ k) (hk3 : k ≤ 3) (hl : 0 < len (posOf 40 a.1)) (ht : rowOf len (posOf 40 a.1) = t) (h1 : ∀ b m', sMv len siz ded 40 k a b → loS m m' → K (nI (fR len n b)) m') (h0 : (∀ b, ¬ sMv len siz ded 40 k a b) → K (-11) m) : jnX5_behind_125 K 0 1 (nI k) 0 (nI t) m := by
  have hk : isKd 40 := Or.inr (Or.inr (Or.inr rfl))
  have ha := hV.1.2.2.2.2.2.1
  have hpos := posOf_lt (kd := 40) ha
  have hP := plc_nodup (len := len)
  have htP : (plc len 12)[t]? = some (posOf 40 a.1) := by rw [← ht]; exact plc_at hpos hl
  have ht6 : t < 6 := by
    have := (List.getElem?_eq_some_iff.mp htP).1
    rw [plc_len] at this
    omega
  have h2 := sV_two hV (p := posOf 40 a.1) (q := 12) (by omega) (by decide) (by omega)
  have hrow : ∀ p, p < 13 → ∀ l ∈ a.2 p, l < n := hV.1.1
  obtain ⟨r1, r2, r3⟩ := hR t ht6
  rw [rws_at htP] at r1
  have r0 := rR_0 hR plc_0
  have fin1 : ∀ m', mvErr len siz ded a.2 40 a.1 k = 0 → k ≤ (a.2 12).length → rR (rws (plc len 12) (mvA 40 (posOf 40 a.1) a.2 k)) m' → hS m m' → wX5_numberOf m' (fun r => K r m') := fun m' he hle hR' hS' => by
    have hmv : sMv len siz ded 40 k a (a.1, mvA 40 (posOf 40 a.1) a.2 k) := ⟨hk, hk1, hle, hl, he, rfl⟩
    refine t5_nb hs1 hn h5 (hmv.V hV) hR' (hM.lo hS'.lo) ?_ (h1 _ m' hmv hS'.lo)
    rw [hS' 32 (by decide) (by decide)]; exact h18
  unfold jnX5_behind_125
  rw [show ((0 : Int32)).toNatClampNeg = 0 from rfl, r0]
  refine ⟨pk_in 0 6 (by omega), pk_le k (a.2 12).length (fun hle => ?_) (fun hgt => h0 (fun b hb => ?_))⟩
  · have hs : seg a.2 12 ((a.2 12).length - k) k = mvd 40 a.1 a.2 k := seg_mv4 hle
    have hme := mvErr_seg (len := len) (siz := siz) (ded := ded) (kd := 40) (k := k) (x := a.1) (sp := 12) (tp := (posOf 40 a.1)) (row := a.2) rfl rfl hs
    have := t5_b_174 (K := K) (v4 := 0) (v5 := 1) (s := 0) (t := t) (f := ((a.2 12).length - k)) (k := k) hM.1 hM.2.1.2.1 hR hrow (by omega) (by omega) plc_0 htP (by omega) (by omega) (by omega) (fun hh => h0 (fun b hb => by
      have := hme.mp hb.2.2.2.2.1
      rcases hh with z | z
      · exact this.1 z
      · exact this.2 z)) (fun g1 g2 => ⟨k + 1, t5_b_out1 hP plc_0 hpos htP ht6 hle (by omega) (fun m' hR' hS' => fin1 m' (hme.mpr ⟨g1, g2⟩) hle hR' hS') k 0 m (by omega) (by rw [goB0]; exact hR) hS.rf⟩) k 0 (by omega)
    rw [show (seg a.2 12 ((a.2 12).length - k) 0).all ded = true from by simp [seg]] at this
    refine ⟨fun _ => ⟨fun z => absurd z (by decide), fun _ => ⟨pk_in 0 6 (by decide), fun x45 e45 => ⟨k + 1, ?_⟩⟩⟩, fun z => absurd rfl z⟩
    rw [pk_sub hle] at e45
    rw [e45]
    exact this
  · have : k ≤ (a.2 12).length := hb.2.2.1
    omega
end BA
