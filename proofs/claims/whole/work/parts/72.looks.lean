/-! THE FACE: looks -/
theorem rngU {α : Type} {i : Int32} {A B : α} (u : Nat) (hu : u + 1 < 2147483648) : (if i < nI 0 then A else if i < nI (u + 1) then B else A) = if a_in i (nI 0) (nI u) = true then B else A := by
  have e : (i < nI (u + 1)) = (i ≤ nI u) := by
    refine propext ?_
    rw [Int32.le_iff_toInt_le, Int32.lt_iff_toInt_lt, nI_toInt (by omega), nI_toInt (by omega)]
    omega
  rw [← rng]
  simp only [e]
