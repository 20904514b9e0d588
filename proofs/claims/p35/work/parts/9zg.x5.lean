/-! THE START: the reference's object -/
theorem an_v0 : a_n v0 = 0 := rfl
theorem iv_v0 : IV v0 := by
  have e20 : ∀ q, q < 8 → ∀ p, p < 8 → v0 (20 + q) p = nM := by
    intro q hq p hp
    unfold v0
    rw [if_neg (by omega), if_pos (by omega), if_pos hp]
    rfl
  refine ⟨nat_nI (j := 0) rfl (by omega) (by omega), ⟨⟨nat_nI (j := 3) rfl (by omega) (by omega), by decide⟩, nat_nI (j := 1) rfl (by omega) (by omega), nat_nI (j := 4) rfl (by omega) (by omega), nat_nI (j := 1) rfl (by omega) (by omega)⟩, ⟨nat_nI (j := 0) rfl (by omega) (by omega), nat_nI (j := 100) rfl (by omega) (by omega), fun p _ => ⟨nat_nI (j := 0) rfl (by omega) (by omega), nat_nI (j := 0) rfl (by omega) (by omega), Nat.le_refl _⟩, by decide⟩, fun p hp => ?_, fun q hq p hp => Or.inl (e20 q hq p hp), fun q _ hq => ⟨e20 q hq, rfl, rfl, rfl⟩, fun q _ => ⟨nat_nI (j := 0) rfl (by omega) (by omega), nat_nI (j := 0) rfl (by omega) (by omega)⟩, ⟨fun p _ => nat_nI (j := 0) rfl (by omega) (by omega), fun p q hp hq => ?_⟩, aw_v0⟩
  · rcases (show p = 0 ∨ p = 1 ∨ p = 2 ∨ p = 3 ∨ p = 4 ∨ p = 5 ∨ p = 6 ∨ p = 7 by omega) with rfl | rfl | rfl | rfl | rfl | rfl | rfl | rfl <;> decide
  · have e1 : ∀ p, v0 1 p = nI 0 := fun p => rfl
    rw [e1, e1, hb_0 q hq, hb_0 p hp]
    exact ⟨rfl, rfl⟩
