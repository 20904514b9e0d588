/-! WHAT ALWAYS HOLDS, kept by the other orders -/
section KQ
variable {v : AS} {f k p q : Nat} {x : Int32}
theorem iv_12 (hI : IV v) (hn : a_n v < 8) : IV (u_2 v 12 0 (nI (a_n v + 1))) := by
  obtain ⟨h1, h2, h3, h4, h5, h6, h7, h8, h9⟩ := hI
  have e : ∀ g, g ≠ 12 → u_2 v 12 0 (nI (a_n v + 1)) g = v g := fun g hg => u_ne hg
  have e1 := e 1 (by omega)
  have e2 := e 2 (by omega)
  have e3 := e 3 (by omega)
  have e7 := e 7 (by omega)
  have e8 := e 8 (by omega)
  have e9 := e 9 (by omega)
  have e11 := e 11 (by omega)
  have e14 := e 14 (by omega)
  have e15 := e 15 (by omega)
  have er : ∀ q, u_2 v 12 0 (nI (a_n v + 1)) (20 + q) = v (20 + q) := fun q => e (20 + q) (by omega)
  have en : a_n (u_2 v 12 0 (nI (a_n v + 1))) = a_n v + 1 := by
    show (u_2 v 12 0 (nI (a_n v + 1)) 12 0).toNatClampNeg = a_n v + 1
    rw [u_s, n_cl (by omega)]
  refine ⟨nat_nI u_s (by omega) (by omega), ?_, ?_, ?_, ?_, ?_, ?_, ?_, ?_⟩
  · simp only [IS, nat, nv, e11]; exact h2
  · have es : nv (u_2 v 12 0 (nI (a_n v + 1))) 2 = nv v 2 := by funext i; show (u_2 v 12 0 (nI (a_n v + 1)) 2 i).toNatClampNeg = _; rw [e2]
    simp only [IM, nat, es, nv, e15, e14, e2, e3]; exact h3
  · simp only [IO, ow, nv, er, e3]; exact h4
  · simp only [IR, nat, nv, er]; exact h5
  · intro q h1 h2
    rw [en] at h1
    rw [er, e7, e8, e9]
    exact h6 q (by omega) h2
  · simp only [ID, nat, nv, e9, e8]; exact h7
  · simp only [IW, nat, nv, e1]; exact h8
  · exact ⟨fun f k hf hk => by rw [e f (by omega)]; exact h9.1 f k hf hk, fun k hk => by rw [e 11 (by omega)]; exact h9.2 k hk⟩
theorem iv_11 (hI : IV v) (hp : p < 4) {j : Nat} (h : (p = 0 ∧ 1 ≤ j ∧ j ≤ 4) ∨ (p = 1 ∧ j ≤ 2) ∨ (p = 2 ∧ j ≤ 9) ∨ (p = 3 ∧ j ≤ 3)) : IV (u_2 v 11 p (nI j)) := by
  obtain ⟨h1, h2, h3, h4, h5, h6, h7, h8, h9⟩ := hI
  have e : ∀ g, g ≠ 11 → u_2 v 11 p (nI j) g = v g := fun g hg => u_ne hg
  have e1 := e 1 (by omega)
  have e2 := e 2 (by omega)
  have e3 := e 3 (by omega)
  have e7 := e 7 (by omega)
  have e8 := e 8 (by omega)
  have e9 := e 9 (by omega)
  have e12 := e 12 (by omega)
  have e14 := e 14 (by omega)
  have e15 := e 15 (by omega)
  have er : ∀ q, u_2 v 11 p (nI j) (20 + q) = v (20 + q) := fun q => e (20 + q) (by omega)
  refine ⟨?_, ?_, ?_, ?_, ?_, ?_, ?_, ?_, ?_⟩
  · simp only [IN, nat, nv, e12]; exact h1
  · obtain ⟨⟨a1, a2⟩, b, c, d⟩ := h2
    have o : ∀ m, m ≠ p → u_2 v 11 p (nI j) 11 m = v 11 m := fun m hm => u_k hm
    have s : nv (u_2 v 11 p (nI j)) 11 p = j := by show (u_2 v 11 p (nI j) 11 p).toNatClampNeg = j; rw [u_s, n_cl (by omega)]
    refine ⟨⟨?_, ?_⟩, ?_, ?_, ?_⟩
    · by_cases z : p = 0
      · subst z; exact nat_nI u_s (by omega) (by omega)
      · unfold nat nv; rw [o 0 (Ne.symm z)]; exact a1
    · by_cases z : p = 0
      · subst z; rw [s]; omega
      · unfold nv; rw [o 0 (Ne.symm z)]; exact a2
    · by_cases z : p = 1
      · subst z; exact nat_nI u_s (by omega) (by omega)
      · unfold nat nv; rw [o 1 (Ne.symm z)]; exact b
    · by_cases z : p = 2
      · subst z; exact nat_nI u_s (by omega) (by omega)
      · unfold nat nv; rw [o 2 (Ne.symm z)]; exact c
    · by_cases z : p = 3
      · subst z; exact nat_nI u_s (by omega) (by omega)
      · unfold nat nv; rw [o 3 (Ne.symm z)]; exact d
  · have es : nv (u_2 v 11 p (nI j)) 2 = nv v 2 := by funext i; show (u_2 v 11 p (nI j) 2 i).toNatClampNeg = _; rw [e2]
    simp only [IM, nat, es, nv, e15, e14, e2, e3]; exact h3
  · simp only [IO, ow, nv, er, e3]; exact h4
  · simp only [IR, nat, nv, er]; exact h5
  · simp only [IA, a_n, e12, er, e7, e8, e9]; exact h6
  · simp only [ID, nat, nv, e9, e8]; exact h7
  · simp only [IW, nat, nv, e1]; exact h8
  · exact ⟨fun f k hf hk => by rw [u_ne (by omega)]; exact h9.1 f k hf hk, fun k hk => by rw [u_k (by omega)]; exact h9.2 k hk⟩
theorem iv_bring (hI : IV v) {j : Nat} (hj : nv v 15 0 + j ≤ 9999) : IV (u_2 (u_2 v 15 0 (v 15 0 + nI j)) 14 0 (v 14 0 + nI j)) := by
  have b1 := hI.br
  have b2 := hI.po
  have b3 := hI.sum
  obtain ⟨h1, h2, h3, h4, h5, h6, h7, h8, h9⟩ := hI
  have x15 : v 15 0 + nI j = nI (nv v 15 0 + j) := by
    have := nI_add (nv v 15 0) j
    rw [← this, ← b1.1]
  have x14 : v 14 0 + nI j = nI (nv v 14 0 + j) := by
    have := nI_add (nv v 14 0) j
    rw [← this, ← b2.1]
  rw [x15, x14]
  have e : ∀ g, g ≠ 14 → g ≠ 15 → u_2 (u_2 v 15 0 (nI (nv v 15 0 + j))) 14 0 (nI (nv v 14 0 + j)) g = v g := fun g hg h2 => by rw [u_ne hg, u_ne h2]
  generalize hw : u_2 (u_2 v 15 0 (nI (nv v 15 0 + j))) 14 0 (nI (nv v 14 0 + j)) = w at e
  have w15 : w 15 0 = nI (nv v 15 0 + j) := by rw [← hw, u_ne (by omega), u_s]
  have w14 : w 14 0 = nI (nv v 14 0 + j) := by rw [← hw, u_s]
  have e1 := e 1 (by omega) (by omega)
  have e2 := e 2 (by omega) (by omega)
  have e3 := e 3 (by omega) (by omega)
  have e7 := e 7 (by omega) (by omega)
  have e8 := e 8 (by omega) (by omega)
  have e9 := e 9 (by omega) (by omega)
  have e11 := e 11 (by omega) (by omega)
  have e12 := e 12 (by omega) (by omega)
  have er : ∀ q, w (20 + q) = v (20 + q) := fun q => e (20 + q) (by omega) (by omega)
  refine ⟨?_, ?_, ?_, ?_, ?_, ?_, ?_, ?_, ?_⟩
  · simp only [IN, nat, nv, e12]; exact h1
  · simp only [IS, nat, nv, e11]; exact h2
  · have es : nv w 2 = nv v 2 := by funext i; show (w 2 i).toNatClampNeg = _; rw [e2]
    have n14 : nv w 14 0 = nv v 14 0 + j := by show (w 14 0).toNatClampNeg = _; rw [w14, n_cl (by omega)]
    have n15 : nv w 15 0 = nv v 15 0 + j := by show (w 15 0).toNatClampNeg = _; rw [w15, n_cl (by omega)]
    refine ⟨nat_nI w15 hj (by omega), nat_nI w14 (by omega) (by omega), ?_, ?_⟩
    · simp only [nat, nv, e2, e3]; exact h3.2.2.1
    · rw [n14, n15, es]
      omega
  · simp only [IO, ow, nv, er, e3]; exact h4
  · simp only [IR, nat, nv, er]; exact h5
  · simp only [IA, a_n, e12, er, e7, e8, e9]; exact h6
  · simp only [ID, nat, nv, e9, e8]; exact h7
  · simp only [IW, nat, nv, e1]; exact h8
  · exact ⟨fun f k hf hk => by rw [e f (by omega) (by omega)]; exact h9.1 f k hf hk, fun k hk => by rw [e 11 (by omega) (by omega)]; exact h9.2 k hk⟩
theorem xor_n : ∀ j, j < 256 → ∀ q, q < 8 → (nI j ^^^ mb q) = nI (nI j ^^^ mb q).toNatClampNeg ∧ (nI j ^^^ mb q).toNatClampNeg < 256 := by decide +kernel
theorem xor_b : ∀ j, j < 256 → ∀ q, q < 8 → ∀ r, r < 8 → hb (nI j ^^^ mb q) (nI r) = (hb (nI j) (nI r) != decide (q = r)) := by decide +kernel
theorem iv_meet (hI : IV v) (hp : p < 8) (hq : q < 8) (hne : p ≠ q) : IV (a_meet v p q) := by
  have hw := hI.ww
  have aw := aw_meet hI hp hq
  obtain ⟨h1, h2, h3, h4, h5, h6, h7, h8, h9⟩ := hI
  have e : ∀ g, g ≠ 1 → a_meet v p q g = v g := fun g hg => by unfold a_meet; rw [u_ne hg, u_ne hg]
  have m1 : ∀ r, a_meet v p q 1 r = if r = p then v 1 p ^^^ mb q else if r = q then v 1 q ^^^ mb p else v 1 r := by
    intro r
    unfold a_meet
    by_cases z1 : r = p
    · subst z1
      rw [if_pos rfl, u_k hne, u_s]
    · rw [if_neg z1]
      by_cases z2 : r = q
      · subst z2
        rw [if_pos rfl, u_s, u_k z1]
      · rw [if_neg z2, u_k z2, u_k z1]
  generalize a_meet v p q = w at *
  have e2 := e 2 (by omega)
  have e3 := e 3 (by omega)
  have e7 := e 7 (by omega)
  have e8 := e 8 (by omega)
  have e9 := e 9 (by omega)
  have e11 := e 11 (by omega)
  have e12 := e 12 (by omega)
  have e14 := e 14 (by omega)
  have e15 := e 15 (by omega)
  have er : ∀ q, w (20 + q) = v (20 + q) := fun q => e (20 + q) (by omega)
  refine ⟨?_, ?_, ?_, ?_, ?_, ?_, ?_, ?_, aw⟩
  · simp only [IN, nat, nv, e12]; exact h1
  · simp only [IS, nat, nv, e11]; exact h2
  · have es : nv w 2 = nv v 2 := by funext i; show (w 2 i).toNatClampNeg = _; rw [e2]
    simp only [IM, nat, es, nv, e15, e14, e2, e3]; exact h3
  · simp only [IO, ow, nv, er, e3]; exact h4
  · simp only [IR, nat, nv, er]; exact h5
  · simp only [IA, a_n, e12, er, e7, e8, e9]; exact h6
  · simp only [ID, nat, nv, e9, e8]; exact h7
  · have n1 : ∀ r, r < 8 → v 1 r = nI (nv v 1 r) ∧ nv v 1 r ≤ 255 := fun r hr => hw.1 r hr
    have B : ∀ r s, r < 8 → s < 8 → hb (w 1 r) (nI s) = (hb (v 1 r) (nI s) != (decide (r = p ∧ s = q) || decide (r = q ∧ s = p))) := by
      intro r s hr hs
      rw [m1]
      by_cases z1 : r = p
      · subst z1
        rw [if_pos rfl, (n1 r hr).1, xor_b _ (by have := (n1 r hr).2; omega) q hq s hs]
        by_cases z : s = q
        · simp [z]
        · simp [z, Ne.symm z, hne]
      · rw [if_neg z1]
        by_cases z2 : r = q
        · subst z2
          rw [if_pos rfl, (n1 r hr).1, xor_b _ (by have := (n1 r hr).2; omega) p hp s hs]
          by_cases z : s = p
          · simp [z]
          · simp [z, Ne.symm z, z1]
        · rw [if_neg z2]
          simp [z1, z2]
    refine ⟨fun r hr => ?_, fun r s hr hs => ⟨?_, ?_⟩⟩
    · have key : ∀ a, a < 8 → ∀ c, c < 8 → w 1 r = v 1 a ^^^ mb c → nat w 1 r 255 := by
        intro a ha c hc hw1
        have z := xor_n (nv v 1 a) (by have := (n1 a ha).2; omega) c hc
        rw [← (n1 a ha).1, ← hw1] at z
        exact ⟨z.1, by have := z.2; show (w 1 r).toNatClampNeg ≤ 255; omega⟩
      have m := m1 r
      by_cases z1 : r = p
      · rw [if_pos z1] at m
        exact key p hp q hq m
      · rw [if_neg z1] at m
        by_cases z2 : r = q
        · rw [if_pos z2] at m
          exact key q hq p hp m
        · rw [if_neg z2] at m
          unfold nat nv
          rw [m]
          exact n1 r hr
    · rw [B r s hr hs, B s r hs hr, (hw.2 r s hr hs).1]
      congr 1
      by_cases z1 : r = p <;> by_cases z2 : s = q <;> by_cases z3 : r = q <;> by_cases z4 : s = p <;> simp [z1, z2, z3, z4] <;> omega
    · rw [B r r hr hr, (hw.2 r r hr hr).2]
      by_cases z1 : r = p <;> by_cases z2 : r = q <;> simp [z1, z2] <;> omega
end KQ
