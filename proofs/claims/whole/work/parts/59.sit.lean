/-! situations -/
abbrev Sit := Nat × (Nat → List Nat)
section SI
variable (len siz : Nat → Nat) (ded : Nat → Bool) (n : Nat)
/-- what can be -/
def sV (a : Sit) : Prop := wf len siz n a.1 a.2 ∧ ∀ q, 13 ≤ q → a.2 q = []
def sMv (kd c : Nat) (a b : Sit) : Prop := isKd kd ∧ 1 ≤ c ∧ c ≤ (a.2 (srcOf kd a.1)).length ∧ 0 < len (posOf kd a.1) ∧ mvErr len siz ded a.2 kd a.1 c = 0 ∧ b = (a.1, mvA kd (posOf kd a.1) a.2 c)
/-- an action and where it leads -/
def act (code : Nat) (a b : Sit) : Prop := (code = 0 ∧ b = ((a.1 + 1) % 12, a.2)) ∨ (code = 1 ∧ b = ((a.1 + 11) % 12, a.2)) ∨ ∃ kd c, code = kd + c ∧ sMv len siz ded kd c a b
def wgt (code : Nat) : Nat := if code ≤ 1 then 10001 else 1
def sE (a b : Sit) (w : Nat) : Prop := ∃ code, act len siz ded code a b ∧ w = wgt code
def sG (l p : Nat) (a : Sit) : Prop := (a.2 p)[0]? = some l
variable {len siz ded n}
theorem sMv.bound {kd c : Nat} {a b : Sit} (hV : sV len siz n a) (h : sMv len siz ded kd c a b) : c ≤ 8 ∧ 10 ≤ kd ∧ kd ≤ 40 := by
  obtain ⟨hk, h1, h2, h3, h4, h5⟩ := h
  obtain ⟨hne, hs, ht⟩ := src_ne hk hV.1.2.2.2.2.2.1
  have := wf_cap hV.1 hs ht hne
  have hkb : 10 ≤ kd ∧ kd ≤ 40 := by rcases hk with rfl | rfl | rfl | rfl <;> decide
  omega
theorem sMv.V {kd c : Nat} {a b : Sit} (hV : sV len siz n a) (h : sMv len siz ded kd c a b) : sV len siz n b := by
  obtain ⟨hk, h1, h2, h3, h4, h5⟩ := h
  have ha := hV.1.2.2.2.2.2.1
  obtain ⟨hne, hs, ht⟩ := src_ne hk ha
  rw [h5]
  refine ⟨mv_wf hk hV.1 h4, fun q hq => ?_⟩
  have := (mv_perms (row := a.2) (k := c) hk ha).2.2 q (by omega) (by omega)
  show mvA kd (posOf kd a.1) a.2 c q = []
  rw [this]
  exact hV.2 q hq
theorem sMv.rev {kd c : Nat} {a b : Sit} (hV : sV len siz n a) (h : sMv len siz ded kd c a b) : sMv len siz ded (rv kd) c b a := by
  obtain ⟨hk, h1, h2, h3, h4, h5⟩ := h
  have ha := hV.1.2.2.2.2.2.1
  obtain ⟨v1, v2, v3, v4, v5⟩ := rv_kd (ang := a.1) hk
  rw [h5]
  refine ⟨v1, h1, ?_, ?_, mvErr_rev hk hV.1 h2 h4, ?_⟩
  · show c ≤ (mvA kd (posOf kd a.1) a.2 c (srcOf (rv kd) a.1)).length
    rw [v3, mv_tlen hk ha h2]; omega
  · show 0 < len (posOf (rv kd) a.1)
    rw [v5]; exact h3
  · show a = (a.1, mvA (rv kd) (posOf (rv kd) a.1) (mvA kd (posOf kd a.1) a.2 c) c)
    rw [v5, mv_back hk (posOf_lt ha) h2]
theorem sV.turn {a : Sit} {x : Nat} (hV : sV len siz n a) (hx : x < 12) : sV len siz n (x, a.2) := ⟨⟨hV.1.1, hV.1.2.1, hV.1.2.2.1, hV.1.2.2.2.1, hV.1.2.2.2.2.1, hx, hV.1.2.2.2.2.2.2⟩, hV.2⟩
theorem act.V {code : Nat} {a b : Sit} (hV : sV len siz n a) (h : act len siz ded code a b) : sV len siz n b := by
  rcases h with ⟨-, e⟩ | ⟨-, e⟩ | ⟨kd, c, -, h⟩
  · rw [e]; exact hV.turn (Nat.mod_lt _ (by decide))
  · rw [e]; exact hV.turn (Nat.mod_lt _ (by decide))
  · exact h.V hV
theorem sE.rev {a b : Sit} {w : Nat} (hV : sV len siz n a) (h : sE len siz ded a b w) : sE len siz ded b a w := by
  have ha := hV.1.2.2.2.2.2.1
  obtain ⟨code, hact, e⟩ := h
  rcases hact with ⟨h0, eb⟩ | ⟨h0, eb⟩ | ⟨kd, c, h0, h⟩
  · refine ⟨1, Or.inr (Or.inl ⟨rfl, ?_⟩), by rw [e, h0]; rfl⟩
    rw [eb]
    show a = (((a.1 + 1) % 12 + 11) % 12, a.2)
    rw [show ((a.1 + 1) % 12 + 11) % 12 = a.1 by omega]
  · refine ⟨0, Or.inl ⟨rfl, ?_⟩, by rw [e, h0]; rfl⟩
    rw [eb]
    show a = (((a.1 + 11) % 12 + 1) % 12, a.2)
    rw [show ((a.1 + 11) % 12 + 1) % 12 = a.1 by omega]
  · have hb := h.bound hV
    have hr := h.rev hV
    have hb2 := hr.bound (h.V hV)
    refine ⟨rv kd + c, Or.inr (Or.inr ⟨rv kd, c, rfl, hr⟩), ?_⟩
    rw [e, h0]
    unfold wgt
    rw [if_neg (by omega), if_neg (by omega)]
end SI
