/-! THE REFERENCE'S FACE: a new paper, done -/
section MW
variable {S : PH} {G : Nat → Nat} {m : Nat} {u v : AS} {hs : List AS} {sl : Nat → Option AS} {tn : Nat} {tx : Nat → Int32}
theorem npa_0 {n : Nat} {i j : Int32} : u_2 (u_2 (u_2 (u_2 (u_2 u 1 (57 + 13 * n + 0) i) 1 (57 + 13 * n + 1) j) 1 (57 + 13 * n + 2) (nI 0)) 1 (57 + 13 * n + 3) (nI 0)) 1 (57 + 13 * n + 4) (nI 0) = npa u n i j 0 := by
  funext f c
  by_cases hf : f = 1
  · subst hf
    rw [u_self, u_self, u_self, u_self, u_self]
    unfold npa up1
    rw [ur_s]
    by_cases h : 57 + 13 * n ≤ c ∧ c < 57 + 13 * n + 5 + 0
    · rw [if_pos h]
      rcases (show c = 57 + 13 * n ∨ c = 57 + 13 * n + 1 ∨ c = 57 + 13 * n + 2 ∨ c = 57 + 13 * n + 3 ∨ c = 57 + 13 * n + 4 by omega) with e | e | e | e | e <;> subst e <;> simp
    · rw [if_neg h, if_neg (by omega), if_neg (by omega), if_neg (by omega), if_neg (by omega), if_neg (by omega)]
  · rw [u_ne hf, u_ne hf, u_ne hf, u_ne hf, u_ne hf]
    unfold npa
    rw [ur_ne hf]
theorem npa_s {n k : Nat} {i j : Int32} : u_2 (npa u n i j k) 1 (57 + 13 * n + (5 + k)) nM = npa u n i j (k + 1) := by
  funext f c
  by_cases hf : f = 1
  · subst hf
    rw [u_self]
    unfold npa up1
    rw [ur_s, ur_s]
    by_cases h : c = 57 + 13 * n + (5 + k)
    · rw [if_pos h, if_pos (show 57 + 13 * n ≤ c ∧ c < 57 + 13 * n + 5 + (k + 1) by omega), if_neg (show ¬ c = 57 + 13 * n by omega), if_neg (show ¬ c = 57 + 13 * n + 1 by omega), if_neg (show ¬ c < 57 + 13 * n + 5 by omega)]
    · rw [if_neg h]
      by_cases h2 : 57 + 13 * n ≤ c ∧ c < 57 + 13 * n + 5 + k
      · rw [if_pos h2, if_pos (show 57 + 13 * n ≤ c ∧ c < 57 + 13 * n + 5 + (k + 1) by omega)]
      · rw [if_neg h2, if_neg (show ¬ (57 + 13 * n ≤ c ∧ c < 57 + 13 * n + 5 + (k + 1)) by omega)]
  · rw [u_ne hf]
    unfold npa
    rw [ur_ne hf, ur_ne hf]
end MW
