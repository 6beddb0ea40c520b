/-! one situation's neighbours improved -/
section XP
variable {len siz : Nat → Nat} {ded : Nat → Bool} {n l p0 : Nat} {a : Sit} {L : List (Nat × Nat)} {m : Mu} {K : Mu → Prop} {S hT hM p lv : Nat}
theorem act_lt {c : Nat} {b : Sit} (hV : sV len siz n a) (hn : n ≤ 3) (h : act len siz ded c a b) : c < 50 := by
  rcases h with ⟨e, -⟩ | ⟨e, -⟩ | ⟨kd, k, e, h⟩
  · omega
  · omega
  · have := sMv_code hV hn h
    rcases this.1 with z | z | z | z <;> omega
def wst (G : Nat → Prop) (E : Nat → Nat → Nat → Prop) (S lv p s : Nat) (hT hM : Nat) (c : Nat → Nat) (T M : List (Nat × Nat)) : Prop := (xpd E c s ∧ srch G E S lv c T M hT hM (fun _ => False)) ∨ srch G E S p c T M hT hM (fun u => u = s)
theorem t1_impr_loop (hV : sV len siz n a) (hs1 : ∀ l, l < n → 1 ≤ siz l) (hn : n ≤ 3) (h5 : trk len 12 ≤ 5) (hS : S = 12 * cnt (plc len 12).length n) (hL : nbI len siz ded (fC len n) a 50 14 L) (hM0 : nbM L m) (hp : p < 1000000000) (hK : ∀ m' c T M lv', srch (gC len siz n l p0) (eC len siz ded n) S lv' c T M hT hM (fun _ => False) → seM S c T M hT hM m' → imS m m' → K m') : ∀ d j c T M m1, j + d = L.length → wst (gC len siz n l p0) (eC len siz ded n) S lv p (fC len n a) hT hM c T M → seM S c T M hT hM m1 → imS m m1 → c (fC len n a) = p → (∀ i x, i < j → L[i]? = some x → c x.2 ≤ p + wgt x.1) → lpX1_improveNeighbours_2 K (d + 1) (nI p) (nI j) m1 := by
  obtain ⟨f1, f2⟩ := fC_lt hs1 hn h5 hV
  rw [← hS] at f1 f2
  intro d
  induction d with
  | zero =>
    intro j c T M m1 hj hW hSe hI hcs hdo
    unfold lpX1_improveNeighbours_2
    have e : j = L.length := by omega
    subst e
    refine pk_le L.length L.length (fun _ => ?_) (fun z => absurd z (by omega)) (hx := by rw [hI 13 (by decide) (by decide) (by decide) (by decide) (by decide)]; exact hM0.1) (ha := by have := hL.2.2.2; omega) (hb := by have := hL.2.2.2; omega)
    rcases hW with ⟨-, h⟩ | h
    · exact hK m1 c T M lv h hSe hI
    · refine hK m1 c T M p (srch_done _ _ h (fun t w he => ?_)) hSe hI
      obtain ⟨a', b', va, vb, ⟨code, hact, ew⟩, ea, eb⟩ := he
      have : a' = a := fC_inj hs1 a' a va hV ea
      subst this
      have hmem := hL.2.1 code b' hact (act_lt hV hn hact)
      obtain ⟨i, hi, ei⟩ := List.getElem_of_mem hmem
      have := hdo i _ hi (List.getElem?_eq_getElem hi)
      rw [ei] at this
      rw [hcs, ew, ← eb]
      exact this
  | succ d ih =>
    intro j c T M m1 hj hW hSe hI hcs hdo
    have hx := List.getElem?_eq_getElem (show j < L.length by omega)
    have h14 := hL.2.2.2
    obtain ⟨cd, t⟩ : Nat × Nat := L[j]'(by omega)
    generalize hy : L[j]'(by omega) = y at hx
    obtain ⟨cd, t⟩ := y
    have hmem : (cd, t) ∈ L := List.mem_of_getElem? hx
    obtain ⟨hcd, b, hact, et⟩ := hL.1 _ hmem
    have hcd' : cd < 50 := hcd
    have hact' : act len siz ded cd a b := hact
    have et' : t = fC len n b := et
    have hVb := act.V hV hact'
    obtain ⟨g1, g2⟩ := fC_lt hs1 hn h5 hVb
    rw [← hS, ← et'] at g1
    have hE : eC len siz ded n (fC len n a) t (wgt cd) := ⟨a, b, hV, hVb, ⟨cd, hact', rfl⟩, rfl, et'.symm⟩
    obtain ⟨m3, m4⟩ := hM0.2 j cd t hx
    have hpk := hSe.1.2.2 (fC len n a) (by omega)
    rw [hcs] at hpk
    have lenT : T.length ≤ S ∧ M.length ≤ S := by
      rcases hW with ⟨-, h⟩ | h
      · exact ⟨h.2.2.1.len, h.2.2.2.1.len⟩
      · exact ⟨h.2.2.1.len, h.2.2.2.1.len⟩
    have hbig : p + 10001 < 1000000000 := by omega
    have stay : c t ≤ p + wgt cd → lpX1_improveNeighbours_2 K (d + 1) (nI p) (nI (j + 1)) m1 := fun hle => by
      refine ih (j + 1) c T M m1 (by omega) hW hSe hI hcs (fun i x hi hxi => ?_)
      by_cases e : i = j
      · subst e
        rw [hx] at hxi
        cases hxi
        exact hle
      · exact hdo i x (by omega) hxi
    have notA : p + wgt cd < c t → srch (gC len siz n l p0) (eC len siz ded n) S p c T M hT hM (fun u => u = fC len n a) := fun hlt => by
      rcases hW with ⟨hxp, -⟩ | h
      · have := hxp t (wgt cd) hE
        omega
      · exact h
    have doneJ : p + wgt cd < c t → ∀ i x, i < j + 1 → L[i]? = some x → va_up c t (p + wgt cd) x.2 ≤ p + wgt x.1 := fun hlt i x hi hxi => by
      by_cases e : i = j
      · subst e
        rw [hx] at hxi
        cases hxi
        rw [va_up_self]
        exact Nat.le_refl _
      · exact Nat.le_trans (up_low hlt x.2) (hdo i x (by omega) hxi)
    have keepS : p + wgt cd < c t → va_up c t (p + wgt cd) (fC len n a) = p := fun hlt => by
      rw [va_up_ne _ _ (fun e => by rw [← e, hcs] at hlt; omega)]
      exact hcs
    unfold lpX1_improveNeighbours_2
    refine pk_le L.length j (fun z => absurd z (by omega)) (fun _ => pk_le 14 j (fun z => absurd z (by omega)) (fun _ => ⟨pk_in j 14 (by omega), ?_⟩)) (hx := by rw [hI 13 (by decide) (by decide) (by decide) (by decide) (by decide)]; exact hM0.1)
    have e3 : m1 3 j = nI cd := by rw [hI 3 (by decide) (by decide) (by decide) (by decide) (by decide)]; exact m3
    have e4 : m1 4 j = nI t := by rw [hI 4 (by decide) (by decide) (by decide) (by decide) (by decide)]; exact m4
    rw [nI_clamp (by omega), e3]
    refine pk_lt 1 cd (fun z => ?_) (fun z => ?_)
    · have hw : wgt cd = 1 := if_neg (by omega)
      rw [hw] at stay notA doneJ keepS hE
      unfold jnX1_improveNeighbours_37
      rw [nI_clamp (by omega), e3, e4]
      refine ⟨pk_in j 14 (by omega), pk_in j 14 (by omega), pk_lt 1 cd (fun _ => ?_) (fun z => absurd z (by omega))⟩
      show wX1_improve_m (nI t) (nI p + 1) m1 _
      rw [nI_1 p]
      refine t1_imp_m (q := p + 1) hSe g1 f2 (by omega) (by omega) (fun hlt => ?_) (fun hle x6 e6 => ?_) (fun hlt m' hSe' hI' x6 e6 => ?_)
      · have := (imp_M _ _ (notA hlt) hcs (by omega) hE g1 hlt).2.2.2.1.len
        simp at this
        omega
      · rw [e6, nI_1]; exact stay hle
      · rw [e6, nI_1]
        exact ih (j + 1) _ _ _ m' (by omega) (Or.inr (imp_M _ _ (notA hlt) hcs (by omega) hE g1 hlt)) hSe' (hI.tr hI') (keepS hlt) (doneJ hlt)
    · have hw : wgt cd = 10001 := if_pos (by omega)
      rw [hw] at stay notA doneJ keepS hE
      unfold jnX1_improveNeighbours_37_2
      rw [nI_clamp (by omega), e3, e4]
      refine ⟨pk_in j 14 (by omega), pk_in j 14 (by omega), pk_lt 1 cd (fun z => absurd z (by omega)) (fun _ => ?_)⟩
      show wX1_improve_t (nI t) (nI p + nI 10001) m1 _
      rw [nI_add]
      refine t1_imp_t (q := p + 10001) hSe g1 f2 (by omega) (by omega) (fun hlt => ?_) (fun hle x6 e6 => ?_) (fun hlt m' hSe' hI' x6 e6 => ?_)
      · have := (imp_T _ _ (notA hlt) hcs (by omega) hE g1 hlt).2.2.1.len
        simp at this
        omega
      · rw [e6, nI_1]; exact stay hle
      · rw [e6, nI_1]
        exact ih (j + 1) _ _ _ m' (by omega) (Or.inr (imp_T _ _ (notA hlt) hcs (by omega) hE g1 hlt)) hSe' (hI.tr hI') (keepS hlt) (doneJ hlt)
/-- what has a cost is a situation -/
theorem fin_V {k c s : Nat} (h : rch (gC len siz n l p0) (eC len siz ded n) k c s) : ∃ a, sV len siz n a ∧ fC len n a = s := by
  cases k with
  | zero => obtain ⟨⟨a, v, -, e⟩, -⟩ := h; exact ⟨a, v, e⟩
  | succ k => obtain ⟨r, w, c', -, ⟨a, b, -, vb, -, -, e⟩, -⟩ := h; exact ⟨b, vb, e⟩
end XP
