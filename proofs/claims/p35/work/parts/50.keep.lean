/-! WHAT ALWAYS HOLDS goes on to hold -/
theorem cnt_cg {P Q : Nat → Bool} : ∀ {n}, (∀ i, i < n → P i = Q i) → cnt P n = cnt Q n
  | 0, _ => rfl
  | n + 1, h => by
    simp only [cnt]
    rw [cnt_cg (fun i hi => h i (by omega)), h n (by omega)]
theorem cnt_up {P Q : Nat → Bool} {k : Nat} : ∀ {n}, k < n → (∀ i, i < n → i ≠ k → Q i = P i) → cnt Q n + bn (P k) = cnt P n + bn (Q k)
  | 0, hk, _ => by omega
  | n + 1, hk, h => by
    simp only [cnt]
    by_cases e : k = n
    · subst e
      rw [cnt_cg (fun i hi => h i (by omega) (by omega))]
      omega
    · have ih := cnt_up (P := P) (Q := Q) (k := k) (n := n) (by omega) (fun i hi hne => h i (by omega) hne)
      rw [h n (by omega) (by omega)]
      omega
theorem sm_cg {g g' : Nat → Nat} : ∀ {n}, (∀ i, i < n → g i = g' i) → sm g n = sm g' n
  | 0, _ => rfl
  | n + 1, h => by
    simp only [sm]
    rw [sm_cg (fun i hi => h i (by omega)), h n (by omega)]
theorem sm_up {g g' : Nat → Nat} {k : Nat} : ∀ {n}, k < n → (∀ i, i < n → i ≠ k → g' i = g i) → sm g' n + g k = sm g n + g' k
  | 0, hk, _ => by omega
  | n + 1, hk, h => by
    simp only [sm]
    by_cases e : k = n
    · subst e
      rw [sm_cg (fun i hi => h i (by omega) (by omega))]
      omega
    · have ih := sm_up (g := g) (g' := g') (k := k) (n := n) (by omega) (fun i hi hne => h i (by omega) hne)
      rw [h n (by omega) (by omega)]
      omega
theorem bn_le (b : Bool) : bn b ≤ 1 := by cases b <;> decide
theorem nat_nI {v : AS} {f k b j : Nat} (h : v f k = nI j) (hj : j ≤ b) (hb : b < 2147483648) : nat v f k b := by
  have e : nv v f k = j := by show (v f k).toNatClampNeg = j; rw [h, n_cl (by omega)]
  exact ⟨by rw [e]; exact h, by rw [e]; exact hj⟩
section KP
variable {v : AS} {f k p q : Nat} {x : Int32}
theorem aw_set (h : AW v) (hk : k < 8) (hf : f ≠ 11) : AW (u_2 v f k x) := ⟨fun a b ha hb => by rw [u_k (by omega)]; exact h.1 a b ha hb, fun b hb => by rw [u_ne (Ne.symm hf)]; exact h.2 b hb⟩
theorem iv_free (hI : IV v) (hf : f = 0 ∨ f = 4 ∨ f = 5 ∨ f = 6 ∨ f = 13 ∨ f = 16) (hk : k < 8) : IV (u_2 v f k x) := by
  obtain ⟨h1, h2, h3, h4, h5, h6, h7, h8, h9⟩ := hI
  have e : ∀ g, g = 1 ∨ g = 2 ∨ g = 3 ∨ g = 7 ∨ g = 8 ∨ g = 9 ∨ g = 11 ∨ g = 12 ∨ g = 14 ∨ g = 15 ∨ 20 ≤ g → u_2 v f k x g = v g := fun g hg => u_ne (by omega)
  have e1 := e 1 (by omega)
  have e2 := e 2 (by omega)
  have e3 := e 3 (by omega)
  have e7 := e 7 (by omega)
  have e8 := e 8 (by omega)
  have e9 := e 9 (by omega)
  have e11 := e 11 (by omega)
  have e12 := e 12 (by omega)
  have e14 := e 14 (by omega)
  have e15 := e 15 (by omega)
  have er : ∀ q, u_2 v f k x (20 + q) = v (20 + q) := fun q => e (20 + q) (by omega)
  refine ⟨?_, ?_, ?_, ?_, ?_, ?_, ?_, ?_, aw_set h9 hk (by omega)⟩
  · simp only [IN, nat, nv, e12]; exact h1
  · simp only [IS, nat, nv, e11]; exact h2
  · have es : nv (u_2 v f k x) 2 = nv v 2 := by funext i; show (u_2 v f k x 2 i).toNatClampNeg = _; rw [e2]
    simp only [IM, nat, es, nv, e15, e14, e2, e3]; exact h3
  · simp only [IO, ow, nv, er, e3]; exact h4
  · simp only [IR, nat, nv, er]; exact h5
  · simp only [IA, a_n, e12, er, e7, e8, e9]; exact h6
  · simp only [ID, nat, nv, e9, e8]; exact h7
  · simp only [IW, nat, nv, e1]; exact h8
theorem iv_7 (hI : IV v) (hq : q < a_n v) (hq8 : q < 8) : IV (u_2 v 7 q x) := by
  obtain ⟨h1, h2, h3, h4, h5, h6, h7, h8, h9⟩ := hI
  have er : ∀ q', u_2 v 7 q x (20 + q') = v (20 + q') := fun q' => u_ne (by omega)
  refine ⟨?_, ?_, ?_, ?_, ?_, ?_, ?_, ?_, aw_set h9 hq8 (by omega)⟩
  · simp (disch := omega) only [IN, nat, nv, u_ne]; exact h1
  · simp (disch := omega) only [IS, nat, nv, u_ne]; exact h2
  · simp (disch := omega) only [IM, nat, nv, u_ne]; exact h3
  · simp (disch := omega) only [IO, ow, nv, er, u_ne]; exact h4
  · simp only [IR, nat, nv, er]; exact h5
  · intro q' g1 g2
    have g1 : a_n v ≤ q' := g1
    rw [er, u_k (show q' ≠ q by omega), u_ne (show 8 ≠ 7 by omega), u_ne (show 9 ≠ 7 by omega)]
    exact h6 q' g1 g2
  · simp (disch := omega) only [ID, nat, nv, u_ne]; exact h7
  · simp (disch := omega) only [IW, nat, nv, u_ne]; exact h8
theorem iv_8 (hI : IV v) (hq : q < a_n v) (hq8 : q < 8) : IV (u_2 v 8 q (nI 1)) := by
  obtain ⟨h1, h2, h3, h4, h5, h6, h7, h8, h9⟩ := hI
  have er : ∀ q', u_2 v 8 q (nI 1) (20 + q') = v (20 + q') := fun q' => u_ne (by omega)
  refine ⟨?_, ?_, ?_, ?_, ?_, ?_, ?_, ?_, aw_set h9 hq8 (by omega)⟩
  · simp (disch := omega) only [IN, nat, nv, u_ne]; exact h1
  · simp (disch := omega) only [IS, nat, nv, u_ne]; exact h2
  · simp (disch := omega) only [IM, nat, nv, u_ne]; exact h3
  · simp (disch := omega) only [IO, ow, nv, er, u_ne]; exact h4
  · simp only [IR, nat, nv, er]; exact h5
  · intro q' g1 g2
    have g1 : a_n v ≤ q' := g1
    rw [er, u_ne (show 7 ≠ 8 by omega), u_ne (show 9 ≠ 8 by omega), u_k (show q' ≠ q by omega)]
    exact h6 q' g1 g2
  · intro q' hq'
    refine ⟨?_, ?_⟩
    · simp (disch := omega) only [nat, nv, u_ne]; exact (h7 q' hq').1
    · by_cases e : q' = q
      · subst e
        exact nat_nI u_s (Nat.le_refl 1) (by omega)
      · simp (disch := omega) only [nat, nv, u_k]; exact (h7 q' hq').2
  · simp (disch := omega) only [IW, nat, nv, u_ne]; exact h8
theorem iv_9 (hI : IV v) (hq : q < a_n v) (hq8 : q < 8) {d : Nat} (hd : d ≤ 2) : IV (u_2 v 9 q (nI d)) := by
  obtain ⟨h1, h2, h3, h4, h5, h6, h7, h8, h9⟩ := hI
  have er : ∀ q', u_2 v 9 q (nI d) (20 + q') = v (20 + q') := fun q' => u_ne (by omega)
  refine ⟨?_, ?_, ?_, ?_, ?_, ?_, ?_, ?_, aw_set h9 hq8 (by omega)⟩
  · simp (disch := omega) only [IN, nat, nv, u_ne]; exact h1
  · simp (disch := omega) only [IS, nat, nv, u_ne]; exact h2
  · simp (disch := omega) only [IM, nat, nv, u_ne]; exact h3
  · simp (disch := omega) only [IO, ow, nv, er, u_ne]; exact h4
  · simp only [IR, nat, nv, er]; exact h5
  · intro q' g1 g2
    have g1 : a_n v ≤ q' := g1
    rw [er, u_ne (show 7 ≠ 9 by omega), u_ne (show 8 ≠ 9 by omega), u_k (show q' ≠ q by omega)]
    exact h6 q' g1 g2
  · intro q' hq'
    refine ⟨?_, ?_⟩
    · by_cases e : q' = q
      · subst e
        exact nat_nI u_s hd (by omega)
      · simp (disch := omega) only [nat, nv, u_k]; exact (h7 q' hq').1
    · simp (disch := omega) only [nat, nv, u_ne]; exact (h7 q' hq').2
  · simp (disch := omega) only [IW, nat, nv, u_ne]; exact h8
/-- other spent tokens of one person -/
theorem iv_3 (hI : IV v) (hp : p < 8) {y : Nat} (h1y : ow v p ≤ y) (h2y : y ≤ nv v 2 p) : IV (u_2 v 3 p (nI y)) := by
  obtain ⟨h1, h2, h3, h4, h5, h6, h7, h8, h9⟩ := hI
  have er : ∀ q', u_2 v 3 p (nI y) (20 + q') = v (20 + q') := fun q' => u_ne (by omega)
  have hg := (h3.2.2.1 p hp).1.2
  refine ⟨?_, ?_, ?_, ?_, ?_, ?_, ?_, ?_, aw_set h9 hp (by omega)⟩
  · simp (disch := omega) only [IN, nat, nv, u_ne]; exact h1
  · simp (disch := omega) only [IS, nat, nv, u_ne]; exact h2
  · refine ⟨?_, ?_, fun p' hp' => ?_, ?_⟩
    · simp (disch := omega) only [nat, nv, u_ne]; exact h3.1
    · simp (disch := omega) only [nat, nv, u_ne]; exact h3.2.1
    · by_cases e : p' = p
      · subst e
        have e3 : nat (u_2 v 3 p' (nI y)) 3 p' 10099 := nat_nI u_s (by omega) (by omega)
        have e4 : nv (u_2 v 3 p' (nI y)) 3 p' = y := by show (u_2 v 3 p' (nI y) 3 p').toNatClampNeg = y; rw [u_s, n_cl (by omega)]
        refine ⟨?_, e3, ?_⟩
        · simp (disch := omega) only [nat, nv, u_ne]; exact (h3.2.2.1 p' hp').1
        · rw [e4]
          simp (disch := omega) only [nv, u_ne]
          exact h2y
      · simp (disch := omega) only [nat, nv, u_ne, u_k]; exact h3.2.2.1 p' hp'
    · simp (disch := omega) only [nv, u_ne]; exact h3.2.2.2
  · intro p' hp'
    simp only [ow, er]
    by_cases e : p' = p
    · subst e
      have e4 : nv (u_2 v 3 p' (nI y)) 3 p' = y := by show (u_2 v 3 p' (nI y) 3 p').toNatClampNeg = y; rw [u_s, n_cl (by omega)]
      rw [e4]
      exact h1y
    · simp (disch := omega) only [nv, u_k]; exact h4 p' hp'
  · simp only [IR, nat, nv, er]; exact h5
  · simp (disch := omega) only [IA, a_n, er, u_ne]; exact h6
  · simp (disch := omega) only [ID, nat, nv, u_ne]; exact h7
  · simp (disch := omega) only [IW, nat, nv, u_ne]; exact h8
/-- another row of scores -/
theorem iv_row (hI : IV v) (hq : q < a_n v) (hq8 : q < 8) {g : Nat → Int32} (hv : ∀ p, p < 8 → g p = nM ∨ ∃ j, j ≤ 10 ∧ g p = nI j) (hj : ∀ k, 8 ≤ k → g k = 0) (ho : ∀ p, p < 8 → ow (u_r v (20 + q) g) p ≤ nv v 3 p) : IV (u_r v (20 + q) g) := by
  obtain ⟨h1, h2, h3, h4, h5, h6, h7, h8, h9⟩ := hI
  have e : ∀ f, f < 20 → u_r v (20 + q) g f = v f := fun f hf => ur_ne (by omega)
  refine ⟨?_, ?_, ?_, ?_, ?_, ?_, ?_, ?_, ?_⟩
  · simp only [IN, nat, nv, e 12 (by omega)]; exact h1
  · simp only [IS, nat, nv, e 11 (by omega)]; exact h2
  · have es : nv (u_r v (20 + q) g) 2 = nv v 2 := by funext i; show (u_r v (20 + q) g 2 i).toNatClampNeg = _; rw [e 2 (by omega)]
    simp only [IM, nat, es, nv, e 15 (by omega), e 14 (by omega), e 2 (by omega), e 3 (by omega)]; exact h3
  · intro p hp
    have := ho p hp
    simp only [nv, e 3 (by omega)]
    exact this
  · intro q' hq' p hp
    by_cases e1 : q' = q
    · subst e1
      rw [ur_s]
      rcases hv p hp with z | ⟨j, z1, z2⟩
      · exact Or.inl z
      · exact Or.inr (nat_nI (v := u_r v (20 + q') g) (by rw [ur_s]; exact z2) z1 (by omega))
    · have e2 : u_r v (20 + q) g (20 + q') = v (20 + q') := ur_ne (by omega)
      simp only [nat, nv, e2]
      exact h5 q' hq' p hp
  · intro q' g1 g2
    have g1 : a_n v ≤ q' := by simpa only [a_n, e 12 (by omega)] using g1
    have e2 : u_r v (20 + q) g (20 + q') = v (20 + q') := ur_ne (by omega)
    simp only [e2, e 7 (by omega), e 8 (by omega), e 9 (by omega)]
    exact h6 q' g1 g2
  · simp only [ID, nat, nv, e 9 (by omega), e 8 (by omega)]; exact h7
  · simp only [IW, nat, nv, e 1 (by omega)]; exact h8
  · refine ⟨fun f k hf hk => ?_, fun k hk => ?_⟩
    · by_cases e1 : f = 20 + q
      · rw [e1, ur_s]; exact hj k hk
      · rw [ur_ne e1]; exact h9.1 f k hf hk
    · rw [e 11 (by omega)]; exact h9.2 k hk
/-- tokens out of the pool -/
theorem iv_give (hI : IV v) (hp : p < 8) {t : Nat} (ht : t ≤ nv v 14 0) : IV (a_give v p (nI t)) := by
  obtain ⟨h1, h2, h3, h4, h5, h6, h7, h8, h9⟩ := hI
  obtain ⟨m1, m2, m3, m4⟩ := h3
  have mg := (m3 p hp).1
  have s1 := sm_up (g := nv v 2) (g' := fun i => if i = p then nv v 2 p + t else nv v 2 i) (k := p) (n := 8) hp (fun i hi hne => if_neg hne)
  rw [if_pos rfl] at s1
  have e14 : a_give v p (nI t) 14 0 = nI (nv v 14 0 - t) := by
    unfold a_give
    rw [u_ne (by omega), u_s, m2.1, pk_sub ht]
  have e2p : a_give v p (nI t) 2 p = nI (nv v 2 p + t) := by
    unfold a_give
    rw [u_s, mg.1, nI_add]
  have e2 : ∀ i, i ≠ p → a_give v p (nI t) 2 i = v 2 i := fun i hi => by unfold a_give; rw [u_k hi, u_ne (by omega)]
  have e : ∀ g, g ≠ 2 → g ≠ 14 → a_give v p (nI t) g = v g := fun g g1 g2 => by unfold a_give; rw [u_ne g1, u_ne g2]
  have er : ∀ q', a_give v p (nI t) (20 + q') = v (20 + q') := fun q' => e (20 + q') (by omega) (by omega)
  have le : nv v 2 p ≤ sm (nv v 2) 8 := by
    have := sm_up (g := nv v 2) (g' := fun i => if i = p then 0 else nv v 2 i) (k := p) (n := 8) hp (fun i hi hne => if_neg hne)
    rw [if_pos rfl] at this
    omega
  have n2 : ∀ i, nv (a_give v p (nI t)) 2 i = if i = p then nv v 2 p + t else nv v 2 i := by
    intro i
    by_cases z : i = p
    · subst z
      rw [if_pos rfl]
      show (a_give v i (nI t) 2 i).toNatClampNeg = _
      rw [e2p, n_cl (by have := m1.2; omega)]
    · rw [if_neg z]
      show (a_give v p (nI t) 2 i).toNatClampNeg = _
      rw [e2 i z]
  have n14 : nv (a_give v p (nI t)) 14 0 = nv v 14 0 - t := by
    show (a_give v p (nI t) 14 0).toNatClampNeg = _
    rw [e14, n_cl (by have := m2.2; omega)]
  refine ⟨?_, ?_, ?_, ?_, ?_, ?_, ?_, ?_, ?_⟩
  · simp only [IN, nat, nv, e 12 (by omega) (by omega)]; exact h1
  · simp only [IS, nat, nv, e 11 (by omega) (by omega)]; exact h2
  · refine ⟨?_, ?_, fun i hi => ?_, ?_⟩
    · simp only [nat, nv, e 15 (by omega) (by omega)]; exact m1
    · exact nat_nI e14 (by have := m2.2; omega) (by omega)
    · have h3i := m3 i hi
      refine ⟨?_, ?_, ?_⟩
      · by_cases z : i = p
        · subst z
          exact nat_nI e2p (by have := m1.2; omega) (by omega)
        · simp only [nat, nv, e2 i z]; exact h3i.1
      · simp only [nat, nv, e 3 (by omega) (by omega)]; exact h3i.2.1
      · rw [n2 i]
        simp only [nv, e 3 (by omega) (by omega)]
        have := h3i.2.2
        split
        · rename_i z
          subst z
          exact Nat.le_trans this (Nat.le_add_right _ _)
        · exact this
    · have e9 : sm (nv (a_give v p (nI t)) 2) 8 = sm (fun i => if i = p then nv v 2 p + t else nv v 2 i) 8 := sm_cg (fun i _ => n2 i)
      rw [e9, n14]
      simp only [nv, e 15 (by omega) (by omega)]
      have m4 : nv v 14 0 + sm (nv v 2) 8 = 100 + nv v 15 0 := m4
      show nv v 14 0 - t + _ = 100 + nv v 15 0
      have s1 : sm (fun i => if i = p then nv v 2 p + t else nv v 2 i) 8 + nv v 2 p = sm (nv v 2) 8 + (nv v 2 p + t) := s1
      show nv v 14 0 - t + sm (fun i => if i = p then nv v 2 p + t else nv v 2 i) 8 = 100 + nv v 15 0
      omega
  · simp only [IO, ow, nv, er, e 3 (by omega) (by omega)]; exact h4
  · simp only [IR, nat, nv, er]; exact h5
  · simp only [IA, a_n, er, e 12 (by omega) (by omega), e 7 (by omega) (by omega), e 8 (by omega) (by omega), e 9 (by omega) (by omega)]; exact h6
  · simp only [ID, nat, nv, e 9 (by omega) (by omega), e 8 (by omega) (by omega)]; exact h7
  · simp only [IW, nat, nv, e 1 (by omega) (by omega)]; exact h8
  · unfold a_give
    refine aw_set ⟨fun a b ha hb => ?_, fun b hb => ?_⟩ hp (by omega)
    · rw [u_ne (by omega)]; exact h9.1 a b ha hb
    · rw [u_ne (by omega)]; exact h9.2 b hb
end KP
