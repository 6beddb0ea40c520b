/-! all neighbours -/
section LN
variable {len siz : Nat → Nat} {ded : Nat → Bool} {n : Nat} {a b : Sit} {L : List (Nat × Nat)} {m : Mu} {K : Mu → Prop}
theorem t1_mov {kd N0 : Nat} (hk : isKd kd) (hV : sV len siz n a) (hs1 : ∀ l, l < n → 1 ≤ siz l) (hn : n ≤ 3) (h5 : trk len 12 ≤ 5) (hN0 : N0 + 3 ≤ 14) (hI : nbI len siz ded (fC len n) a kd N0 L) (hM : nbM L m) (hA : vwA len siz ded n m) (hB : vwB siz a m) (hK : ∀ m' L', nbI len siz ded (fC len n) a (kd + 10) (N0 + 3) L' → nbM L' m' → vwA len siz ded n m' → vwB siz a m' → nS m m' → K m') : wX1_addMovements (nI kd) m K := by
  have ha := hV.1.2.2.2.2.2.1
  obtain ⟨hne, hs13, ht13⟩ := src_ne (ang := a.1) hk ha
  have hcnt := sV_row hV hs13
  unfold wX1_addMovements
  refine t_source hk hB.2 ha (t_countAt hs13 ?_)
  rw [(hB.1 _ hs13).1]
  refine pk_lt 3 (a.2 (srcOf kd a.1)).length (fun z => absurd z (by omega)) (fun _ => ⟨(a.2 (srcOf kd a.1)).length + 1, ?_⟩)
  refine t1_mov_loop hk hV hs1 hn h5 hN0 hK (a.2 (srcOf kd a.1)).length 1 L m (by omega) (by omega) ?_ hM hA hB nS.rf
  refine hI.skip (by omega) (by omega) (fun c' b h2 h3 hb => ?_)
  have e : c' = kd := by omega
  subst e
  rcases hb with ⟨e, h⟩ | ⟨e, h⟩ | ⟨kd', k', e', h'⟩
  · rcases hk with z | z | z | z <;> omega
  · rcases hk with z | z | z | z <;> omega
  · have s2 := sMv_code hV hn h'
    have := s2.1
    rcases hk with rfl | rfl | rfl | rfl <;> rcases this with rfl | rfl | rfl | rfl <;> omega
/-- what listing leaves as it was -/
def lS (m m' : Mu) : Prop := (∀ a, a ≠ 2 → a ≠ 3 → a ≠ 4 → a ≠ 13 → a ≠ 21 → a ≠ 22 → a ≠ 23 → a ≠ 28 → m' a = m a) ∧ (∀ i, i ≠ 10 → m' 13 i = m 13 i) ∧ ∀ i, i ≠ 7 → m' 28 i = m 28 i
theorem lS.rf {m : Mu} : lS m m := ⟨fun _ _ _ _ _ _ _ _ _ => rfl, fun _ _ => rfl, fun _ _ => rfl⟩
theorem lS.tr {m m' m'' : Mu} (h : lS m m') (h2 : lS m' m'') : lS m m'' := ⟨fun a h1 h3 h4 h5 h6 h7 h8 h9 => (h2.1 a h1 h3 h4 h5 h6 h7 h8 h9).trans (h.1 a h1 h3 h4 h5 h6 h7 h8 h9), fun i hi => (h2.2.1 i hi).trans (h.2.1 i hi), fun i hi => (h2.2.2 i hi).trans (h.2.2 i hi)⟩
theorem nS.l {m m' : Mu} (h : nS m m') : lS m m' := ⟨fun a h1 h2 h3 h4 h5 h6 h7 _ => h.1 a h1 h2 h3 h4 h5 h6 h7, h.2, fun i _ => congrFun (h.1 28 (by decide) (by decide) (by decide) (by decide) (by decide) (by decide) (by decide)) i⟩
theorem vwA.lS {m m' : Mu} (h : vwA len siz ded n m) (e : lS m m') : vwA len siz ded n m' := by
  obtain ⟨h1, ⟨a1, a2, a3, a4, D, a5, a6, a7⟩⟩ := h
  refine ⟨h1.keep (e.1 1 (by decide) (by decide) (by decide) (by decide) (by decide) (by decide) (by decide) (by decide)) (e.2.1 8 (by decide)), ⟨fun p hp => ?_, fun l hl => ?_, ?_, a4, D, a5, ?_, a7⟩⟩
  · show m' 20 p = _ ∧ _
    rw [e.1 20 (by decide) (by decide) (by decide) (by decide) (by decide) (by decide) (by decide) (by decide)]; exact a1 p hp
  · show m' 24 l = _ ∧ _
    rw [e.1 24 (by decide) (by decide) (by decide) (by decide) (by decide) (by decide) (by decide) (by decide)]; exact a2 l hl
  · show m' 28 5 = _
    rw [e.2.2 5 (by decide)]; exact a3
  · show m' 28 6 = _
    rw [e.2.2 6 (by decide)]; exact a6
theorem fmod {s : Nat} {K : Int32 → Prop} (hs : s < 2 ^ 31) (h : K (nI (s % 12))) : wJ9_floorMod_7cf53 (nI s) (12 : Int32) K := by
  refine ⟨by decide, fun x1 e1 => ⟨fun _ => ?_, fun z => absurd ?_ z⟩⟩
  · rw [e1, rem12 hs]; exact h
  · rw [show (12 : Int32) = nI 12 from rfl, fb_xorI]
    exact nI_pos' (Nat.xor_lt_two_pow hs (by decide))
theorem t1_list (hV : sV len siz n a) (hs1 : ∀ l, l < n → 1 ≤ siz l) (hn : n ≤ 3) (h5 : trk len 12 ≤ 5) (hA : vwA len siz ded n m) (hK : ∀ m' L, nbI len siz ded (fC len n) a 50 14 L → nbM L m' → vwA len siz ded n m' → lS m m' → K m') : wX1_listNeighbours (nI (fC len n a)) m K := by
  have ha := hV.1.2.2.2.2.2.1
  obtain ⟨f1, f2⟩ := fC_lt hs1 hn h5 hV
  have hmod : fC len n a % 12 = a.1 := by unfold fC; omega
  have hdiv : fC len n a / 12 = dig (flt a.2 (plc len 12)) (plc len 12).length 0 n := by unfold fC; omega
  have hle : a.1 ≤ fC len n a := by unfold fC; omega
  have tn : ∀ x, x < 12 → nI (fC len n a) - nI a.1 + nI x = nI (fC len n (x, a.2)) := fun x hx => by
    rw [pk_sub hle, nI_add]
    congr 1
    unfold fC
    show _ = dig (flt a.2 (plc len 12)) (plc len 12).length 0 n * 12 + x
    omega
  intro m1 e1
  refine fmod (by omega) ?_
  rw [hmod, nI_1, rem12 (by omega), show (nI a.1 + (12 : Int32)) - (1 : Int32) = nI (a.1 + 11) from by rw [show (12 : Int32) = nI 12 from rfl, nI_add, nI_m1 (by omega)]; rfl, rem12 (by omega), tn _ (Nat.mod_lt _ (by decide)), tn _ (Nat.mod_lt _ (by decide))]
  have hS1 : nS m m1 := by
    rw [e1]
    exact ⟨fun x _ _ _ h13 _ _ _ => pu_upn _ _ _ h13, fun i hi => by rw [pu_up, pu_un _ _ hi]⟩
  have hM0 : nbM [] m1 := ⟨by rw [e1, pu_up, pu_u]; rfl, fun i c t hx => by simp at hx⟩
  have hI0 : nbI len siz ded (fC len n) a 0 0 [] := ⟨fun x hx => by simp at hx, fun c b _ hc => absurd hc (by omega), List.Pairwise.nil, Nat.le_refl _⟩
  have a0 : act len siz ded 0 a ((a.1 + 1) % 12, a.2) := Or.inl ⟨rfl, rfl⟩
  have a1 : act len siz ded 1 a ((a.1 + 11) % 12, a.2) := Or.inr (Or.inl ⟨rfl, rfl⟩)
  have hI1 := hI0.add (Nat.zero_le 0) (fun c' b _ h3 => by omega) a0 (fun b' hb' => act_one hV hn a0 hb')
  have hI2 := hI1.add (Nat.le_refl 1) (fun c' b h2 h3 => by omega) a1 (fun b' hb' => act_one hV hn a1 hb')
  refine t1_addNb (c := 0) hM0 (by decide) (fun m3 hM3 hS3 hS3' => ?_)
  refine t1_addNb (c := 1) hM3 (by simp) (fun m4 hM4 hS4 hS4' m5 e5 => ?_)
  have hS4n : nS m m4 := hS1.tr (nS.tr ⟨fun x _ h2 h3 h4 _ _ _ => hS3 x h2 h3 h4, hS3'⟩ ⟨fun x _ h2 h3 h4 _ _ _ => hS4 x h2 h3 h4, hS4'⟩)
  have hS5 : lS m m5 := hS4n.l.tr (by
    rw [e5]
    exact ⟨fun x _ _ _ _ _ _ _ h28 => pu_upn _ _ _ h28, fun i _ => by rw [pu_upn _ _ _ (by decide)], fun i hi => by rw [pu_up, pu_un _ _ hi]⟩)
  have hA5 := hA.lS hS5
  have h287 : m5 28 7 = nI a.1 := by rw [e5, pu_up, pu_u]
  have hM5 : nbM ([] ++ [(0, fC len n ((a.1 + 1) % 12, a.2))] ++ [(1, fC len n ((a.1 + 11) % 12, a.2))]) m5 := by
    refine ⟨?_, fun i c t hx => ?_⟩
    · rw [e5, pu_upn _ _ _ (by decide)]; exact hM4.1
    · rw [e5, pu_upn _ _ _ (by decide), pu_upn _ _ _ (by decide)]; exact hM4.2 i c t hx
  have nomv : (len a.1 = 0 ∧ len ((a.1 + 6) % 12) = 0) → ∀ c b, 2 ≤ c → ¬ act len siz ded c a b := fun ⟨z1, z2⟩ c b h2 hb => by
    rcases hb with ⟨e, -⟩ | ⟨e, -⟩ | ⟨kd, k, -, h⟩
    · omega
    · omega
    · have := h.2.2.2.1
      unfold posOf at this
      split at this <;> omega
  have show111 : jnX1_listNeighbours_111 K (nI (fC len n a)) m5 := by
    unfold jnX1_listNeighbours_111
    refine t1_show (siz := siz) (n := n) hA5.1 plc_nodup plc_ne (by rw [plc_len]; omega) plc_13 hA5.2.2.2.1 hn (fun l hl => (hA5.2.2.1 l hl).1) (by omega) (fun m14 hB14 hS14 => ?_)
    rw [hdiv, show_of plc_nodup plc_ne (sV_F hs1 hV) (sV_off hs1 hV)] at hB14
    have hM14 : nbM ([] ++ [(0, fC len n ((a.1 + 1) % 12, a.2))] ++ [(1, fC len n ((a.1 + 11) % 12, a.2))]) m14 := by
      refine ⟨?_, fun i c t hx => ?_⟩
      · rw [hS14 13 (by decide) (by decide) (by decide) (by decide)]; exact hM5.1
      · rw [hS14 3 (by decide) (by decide) (by decide) (by decide), hS14 4 (by decide) (by decide) (by decide) (by decide)]; exact hM5.2 i c t hx
    have hI10 := hI2.skip (U' := 10) (N' := 2) (by decide) (Nat.le_refl _) (fun c' b h2 h3 hb => by
      rcases hb with ⟨e, -⟩ | ⟨e, -⟩ | ⟨kd, k, e, h⟩
      · omega
      · omega
      · have := (sMv_code hV hn h).1
        rcases this with z | z | z | z <;> omega)
    refine t1_mov (kd := 10) (Or.inl rfl) hV hs1 hn h5 (by decide) hI10 hM14 (hA5.nS hS14.n) ⟨hB14, by rw [hS14 28 (by decide) (by decide) (by decide) (by decide)]; exact h287⟩ (fun m15 L15 i15 n15 a15 b15 s15 => ?_)
    refine t1_mov (kd := 20) (Or.inr (Or.inl rfl)) hV hs1 hn h5 (by decide) i15 n15 a15 b15 (fun m16 L16 i16 n16 a16 b16 s16 => ?_)
    refine t1_mov (kd := 30) (Or.inr (Or.inr (Or.inl rfl))) hV hs1 hn h5 (by decide) i16 n16 a16 b16 (fun m17 L17 i17 n17 a17 b17 s17 => ?_)
    refine t1_mov (kd := 40) (Or.inr (Or.inr (Or.inr rfl))) hV hs1 hn h5 (by decide) i17 n17 a17 b17 (fun m18 L18 i18 n18 a18 b18 s18 => ?_)
    exact hK m18 L18 i18 n18 a18 (hS5.tr (hS14.n.tr (s15.tr (s16.tr (s17.tr s18)))).l)
  have hA0 := hA5.2.1
  refine t_posA ?_
  rw [show mu_sub m5 20 8 7 = nI a.1 from h287]
  refine t_lengthAt (by omega) ?_
  rw [(hA0 a.1 (by omega)).1]
  have hl1 := (hA0 a.1 (by omega)).2
  have hl2 := (hA0 ((a.1 + 6) % 12) (by omega)).2
  have j76 : ∀ u0 : Int32, (u0 = 0 ↔ len a.1 = 0) → jnX1_listNeighbours_76 K (nI (fC len n a)) u0 m5 := fun u0 hu => by
    refine t_posB (a := a.1) h287 ha (t_lengthAt (by omega) ?_)
    rw [(hA0 ((a.1 + 6) % 12) (by omega)).1]
    refine pk_le (len ((a.1 + 6) % 12)) 0 (fun z => ?_) (fun z => ?_)
    · refine ⟨fun e => ⟨fun _ => ?_, fun z => absurd rfl z⟩, fun _ => show111⟩
      exact hK m5 _ (hI2.skip (by decide) (by decide) (fun c' b h2 h3 hb => nomv ⟨hu.mp e, by omega⟩ c' b h2 hb)) hM5 hA5 hS5
    · exact ⟨fun e => ⟨fun z => absurd z (by decide), fun _ => show111⟩, fun _ => show111⟩
  refine pk_le (len a.1) 0 (fun z => j76 0 ⟨fun _ => by omega, fun _ => rfl⟩) (fun z => j76 1 ⟨fun e => absurd e (by decide), fun e => by omega⟩)
end LN
