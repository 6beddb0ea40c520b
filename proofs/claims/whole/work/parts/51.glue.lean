/-! all but the planners -/
section GL
variable {P : Bool → (Nat → Nat) → (Nat → Nat) → (Nat → Bool) → Nat → Mu → Mu → Prop}
theorem okAll_of (hP : pK P) (hF : pF P) (h17 : ∀ hp s0 s1 m k, JP P hp s0 s1 m k → ∀ (a1 a2 : Int32), ok_17 (JP P) a1 a2 hp s0 s1 m k) (h18 : ∀ hp s0 s1 m k, JP P hp s0 s1 m k → ∀ (a1 a2 a3 : Int32), ok_18 (JP P) a1 a2 a3 hp s0 s1 m k) : okAll (JP P) :=
  ⟨fun _ _ _ _ _ h a1 a2 => o_0 hF a1 a2 h, fun _ _ _ _ _ h a1 => o_1 hF a1 h, fun _ _ _ _ _ h a1 a2 => o_2 hF a1 a2 h, fun _ _ _ _ _ h => o_3 hF h, fun _ _ _ _ _ h a1 a2 => o_4 hF a1 a2 h, fun _ _ _ _ _ h => o_5 h, fun _ _ _ _ _ h a1 => o_6 a1 h, fun _ _ _ _ _ h a1 => o_7 a1 h, fun _ _ _ _ _ h a1 a2 => o_8 a1 a2 h, fun _ _ _ _ _ h a1 => o_9 a1 h, fun _ _ _ _ _ h a1 => o_10 a1 h, fun _ _ _ _ _ h a1 => o_11 hP a1 h, fun _ _ _ _ _ h a1 a2 => o_12 hP a1 a2 h, fun _ _ _ _ _ h a1 a2 => o_13 hP a1 a2 h, fun _ _ _ _ _ h => o_14 h, fun _ _ _ _ _ h => o_15 hP h, fun _ _ _ _ _ h a1 => o_16 a1 h, h17, h18, fun _ _ _ _ _ h a1 => o_19 hP a1 h, fun _ _ _ _ _ h a1 => o_20 hF a1 h⟩
def len0 : Nat → Nat := va_up (fun _ => 0) 12 30
theorem len0_at (p : Nat) : upd (fun _ => (0 : Int32)) 12 30 p = nI (len0 p) ∧ len0 p ≤ 60 := by
  unfold len0
  by_cases e : p = 12
  · subst e; rw [pu_u, va_up_self]; exact ⟨rfl, by decide⟩
  · rw [pu_un _ _ e, va_up_ne _ _ e]; exact ⟨rfl, by decide⟩
theorem J_init (h : P false len0 (fun _ => 0) (fun _ => false) 0 (fun _ _ => 0) i5) : JP P false false false i4 i5 := by
  have e0 : i5 0 = upd (fun _ => 0) 12 30 := by unfold i5; rw [pu_ne _ _ (by decide), pu_same]
  have e2 : i5 2 = fun _ => 0 := by unfold i5; rw [pu_ne _ _ (by decide), pu_ne _ _ (by decide)]
  have e32 : i5 32 = upd (fun _ => 0) 6 (-11) := by unfold i5; rw [pu_same]
  refine ⟨len0, fun _ => 0, fun _ => false, 0, 0, fun _ => [], [], ?_, ⟨⟨fun p _ => ?_, fun l hl => absurd hl (by omega), rfl, by decide, 0, by decide, rfl, fun l hl => absurd hl (by omega)⟩, fun p _ => ⟨rfl, rfl, Nat.zero_le _, fun i l hl => by simp at hl⟩, rfl⟩, ?_, ⟨by decide, rfl, ?_, fun i c hi => by simp at hi⟩, trivial, ?_, ⟨⟨fun _ => rfl, fun _ => ?_⟩, fun z => absurd z (by decide)⟩, ⟨⟨fun _ => rfl, fun _ => ?_⟩, fun z => absurd z (by decide)⟩, h⟩
  · exact ⟨fun p _ l hl => by simp at hl, fun p _ => List.nodup_nil, fun p q l _ _ hl => by simp at hl, fun l hl => absurd hl (by omega), fun p _ => Nat.zero_le _, by decide, by decide, by decide⟩
  · exact len0_at p
  · rw [e0]
    refine ⟨⟨fun p _ => len0_at p, ?_, ?_, by decide, fun l hl => absurd hl (by omega), fun l hl => absurd hl (by omega), by decide⟩, fun p hp => ⟨?_, Nat.zero_le _, fun i l hl => by simp at hl⟩⟩
    · rw [pu_un _ _ (by decide)]; rfl
    · rw [pu_un _ _ (by decide)]; rfl
    · rw [pu_un _ _ (by omega)]; rfl
  · rw [e32, pu_un _ _ (by decide)]; rfl
  · rw [e32, pu_un _ _ (by decide)]; rfl
  · rw [e2]
  · rw [e2]
end GL
