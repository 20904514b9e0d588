/-! THE REFERENCE'S FACE: a new paper -/
section MV
variable {S : PH} {G : Nat → Nat} {m : Nat} {u v : AS} {hs : List AS} {sl : Nat → Option AS} {tn : Nat} {tx : Nat → Int32}
/-- the new paper's row, its first scores none -/
def npa (u : AS) (n : Nat) (i j : Int32) (k : Nat) : AS := u_r u 1 (fun c => if 57 + 13 * n ≤ c ∧ c < 57 + 13 * n + 5 + k then (if c = 57 + 13 * n then i else if c = 57 + 13 * n + 1 then j else if c < 57 + 13 * n + 5 then nI 0 else nM) else u 1 c)
theorem npa_cr {n : Nat} {i j : Int32} (hI : IV v) (hn : n = a_n v) (h8 : n < 8) (hc : cr (u 1) 0 n v) : cr ((u_2 (npa u n i j 8) 1 8 (nI (n + 1))) 1) 0 (n + 1) (a_pa v i j) := by
  subst hn
  have ab := hI.ab (q := a_n v) (Nat.le_refl _) h8
  intro f p hv
  have e1 : (u_2 (npa u (a_n v) i j 8) 1 8 (nI (a_n v + 1))) 1 (161 * 0 + lo f p) = if lo f p = 8 then nI (a_n v + 1) else if 57 + 13 * a_n v ≤ lo f p ∧ lo f p < 57 + 13 * a_n v + 13 then (if lo f p = 57 + 13 * a_n v then i else if lo f p = 57 + 13 * a_n v + 1 then j else if lo f p < 57 + 13 * a_n v + 5 then nI 0 else nM) else u 1 (lo f p) := by
    rw [show 161 * 0 + lo f p = lo f p by omega, u_self]
    rfl
  rw [e1]
  have old : ∀ f p, vd (a_n v) f p → u 1 (lo f p) = vl v f p := fun f p hv => by
    have k := hc f p hv
    rwa [show 161 * 0 + lo f p = lo f p by omega] at k
  have keep : vd (a_n v) f p → lo f p ≠ 8 → ¬ (57 + 13 * a_n v ≤ lo f p ∧ lo f p < 57 + 13 * a_n v + 13) → vl v f p = vl (a_pa v i j) f p → (if lo f p = 8 then nI (a_n v + 1) else if 57 + 13 * a_n v ≤ lo f p ∧ lo f p < 57 + 13 * a_n v + 13 then (if lo f p = 57 + 13 * a_n v then i else if lo f p = 57 + 13 * a_n v + 1 then j else if lo f p < 57 + 13 * a_n v + 5 then nI 0 else nM) else u 1 (lo f p)) = vl (a_pa v i j) f p := by
    intro k1 k2 k3 k4
    rw [if_neg k2, if_neg k3, old f p k1, k4]
  have oth : ∀ f, f ≠ 5 → f ≠ 6 → f ≠ 12 → a_pa v i j f = v f := fun f a b c => by unfold a_pa; rw [u_ne c, u_ne b, u_ne a]
  have vlE : ∀ f p, f ≠ 5 → f ≠ 6 → f ≠ 12 → vl (a_pa v i j) f p = vl v f p := fun f p a b c => by
    unfold vl
    rw [oth f a b c, oth 2 (by omega) (by omega) (by omega), oth 3 (by omega) (by omega) (by omega)]
  have hv2 := hv
  unfold vd at hv2
  rcases hv2 with ⟨a1, a2⟩ | ⟨a1, a2, a3⟩ | ⟨a1, a2⟩ | ⟨a1, a2, a3⟩ | ⟨a1, a2, a3⟩ | ⟨a1, a2⟩
  · have l : lo f p = 17 + 8 * f + p := by unfold lo; rw [if_pos a1]
    exact keep (by unfold vd; omega) (by omega) (by omega) (vlE f p (by omega) (by omega) (by omega)).symm
  · have l : lo f p = 57 + 13 * p + (f - 5) := lo_5 a1 a2
    have hvl : vl (a_pa v i j) f p = a_pa v i j f p := by unfold vl; rw [if_neg (by omega)]
    have hvo : vl v f p = v f p := by unfold vl; rw [if_neg (by omega)]
    by_cases hp : p = a_n v
    · subst hp
      rw [if_neg (by omega), if_pos (by omega), hvl]
      rcases (show f = 5 ∨ f = 6 ∨ f = 7 ∨ f = 8 ∨ f = 9 by omega) with rfl | rfl | rfl | rfl | rfl
      · rw [if_pos (by omega)]
        unfold a_pa
        rw [u_ne (by omega), u_ne (by omega), u_s]
      · rw [if_neg (by omega), if_pos (by omega)]
        unfold a_pa
        rw [u_ne (by omega), u_s]
      · rw [if_neg (by omega), if_neg (by omega), if_pos (by omega), oth 7 (by omega) (by omega) (by omega), ab.2.1]
      · rw [if_neg (by omega), if_neg (by omega), if_pos (by omega), oth 8 (by omega) (by omega) (by omega), ab.2.2.1]
      · rw [if_neg (by omega), if_neg (by omega), if_pos (by omega), oth 9 (by omega) (by omega) (by omega), ab.2.2.2]
    · refine keep (by unfold vd; omega) (by omega) (by omega) ?_
      rw [hvl, hvo]
      unfold a_pa
      rw [u_ne (by omega), u_k hp, u_k hp]
  · have l : lo f p = 4 + p := by rw [a1]; rfl
    exact keep (by unfold vd; omega) (by omega) (by omega) (vlE f p (by omega) (by omega) (by omega)).symm
  · subst a3
    rcases (show f = 12 ∨ f = 13 ∨ f = 14 ∨ f = 15 ∨ f = 16 by omega) with rfl | rfl | rfl | rfl | rfl
    · rw [if_pos (show lo 12 0 = 8 from rfl)]
      show _ = a_pa v i j 12 0
      unfold a_pa
      rw [u_s]
    · exact keep (by unfold vd; omega) (by decide) (by rw [show lo 13 0 = 1 from rfl]; omega) (vlE 13 0 (by omega) (by omega) (by omega)).symm
    · exact keep (by unfold vd; omega) (by decide) (by rw [show lo 14 0 = 0 from rfl]; omega) (vlE 14 0 (by omega) (by omega) (by omega)).symm
    · exact keep (by unfold vd; omega) (by decide) (by rw [show lo 15 0 = 2 from rfl]; omega) (vlE 15 0 (by omega) (by omega) (by omega)).symm
    · exact keep (by unfold vd; omega) (by decide) (by rw [show lo 16 0 = 3 from rfl]; omega) (vlE 16 0 (by omega) (by omega) (by omega)).symm
  · obtain ⟨q, rfl⟩ : ∃ q, f = 20 + q := ⟨f - 20, by omega⟩
    have l : lo (20 + q) p = 62 + 13 * q + p := lo_20 (by omega)
    by_cases hq : q = a_n v
    · rw [if_neg (by omega), if_pos (by omega), if_neg (by omega), if_neg (by omega), if_neg (by omega), vlE _ p (by omega) (by omega) (by omega)]
      unfold vl
      rw [if_neg (by omega), hq, ab.1 p a3]
    · exact keep (by unfold vd; omega) (by omega) (by omega) (vlE _ p (by omega) (by omega) (by omega)).symm
  · have l : lo f p = 9 + p := by rw [a1]; rfl
    exact keep (by unfold vd; omega) (by omega) (by omega) (vlE f p (by omega) (by omega) (by omega)).symm
end MV
