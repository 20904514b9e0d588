/-! THE REFERENCE, READ: the lowest scorer, spreads, pairs, the best reviewer -/
theorem i_lt {a b : Int32} : a < b ↔ a.toInt < b.toInt := Int32.lt_iff_toInt_lt
theorem i_le {a b : Int32} : a ≤ b ↔ a.toInt ≤ b.toInt := Int32.le_iff_toInt_le
theorem isS_iff {a : Int32} : isS a = true ↔ 0 ≤ a.toInt ∧ a.toInt ≤ 9 := by
  have e9 : (nI 9).toInt = 9 := by decide
  have e0 : (nI 0).toInt = 0 := by decide
  unfold isS
  rw [Bool.and_eq_true, Bool.not_eq_true', Bool.not_eq_true', decide_eq_false_iff_not, decide_eq_false_iff_not, i_lt, i_lt, e9, e0]
  omega
theorem nM_ne {j : Nat} (h : j < 2147483648) : ¬ nI j = nM := by
  intro z
  have := congrArg Int32.toInt z
  rw [nI_toInt (by omega)] at this
  have h2 : nM.toInt = -1 := by decide
  omega
/-- from the highest person on -/
def a_ls (g : Nat → Int32) : Nat → Int32
  | 0 => nM
  | i + 1 => if isS (g (7 - i)) then (if a_ls g i = nM then nI (7 - i) else if g (a_ls g i).toNatClampNeg < g (7 - i) then a_ls g i else nI (7 - i)) else a_ls g i
theorem ls_in (g : Nat → Int32) : ∀ i, i ≤ 8 → (a_ls g i = nM ∧ ∀ p, 8 - i ≤ p → p < 8 → isS (g p) = false) ∨ ∃ j, 8 - i ≤ j ∧ j < 8 ∧ a_ls g i = nI j ∧ isS (g j) = true ∧ (∀ p, 8 - i ≤ p → p < 8 → isS (g p) = true → g j ≤ g p) ∧ (∀ p, 8 - i ≤ p → p < j → isS (g p) = true → g j < g p)
  | 0, _ => Or.inl ⟨rfl, fun p h1 h2 => by omega⟩
  | i + 1, hi => by
    have ih := ls_in g i (by omega)
    cases hs : isS (g (7 - i)) with
    | false =>
      have e : a_ls g (i + 1) = a_ls g i := by simp only [a_ls, hs, Bool.false_eq_true, ↓reduceIte]
      rw [e]
      rcases ih with ⟨h1, h2⟩ | ⟨j, h1, h2, h3, h4, h5, h6⟩
      · refine Or.inl ⟨h1, fun p g1 g2 => ?_⟩
        by_cases g3 : p = 7 - i
        · rw [g3]; exact hs
        · exact h2 p (by omega) g2
      · refine Or.inr ⟨j, by omega, h2, h3, h4, fun p g1 g2 g3 => ?_, fun p g1 g2 g3 => ?_⟩
        · by_cases g4 : p = 7 - i
          · rw [g4, hs] at g3; cases g3
          · exact h5 p (by omega) g2 g3
        · by_cases g4 : p = 7 - i
          · rw [g4, hs] at g3; cases g3
          · exact h6 p (by omega) g2 g3
    | true =>
      rcases ih with ⟨h1, h2⟩ | ⟨j, h1, h2, h3, h4, h5, h6⟩
      · have e : a_ls g (i + 1) = nI (7 - i) := by simp only [a_ls, hs, h1, ↓reduceIte]
        refine Or.inr ⟨7 - i, by omega, by omega, e, hs, fun p g1 g2 g3 => ?_, fun p g1 g2 g3 => by omega⟩
        by_cases g4 : p = 7 - i
        · rw [g4]; exact Int32.le_refl _
        · rw [h2 p (by omega) g2] at g3; cases g3
      · have hne : ¬ nI j = nM := nM_ne (by omega)
        by_cases hlt : g j < g (7 - i)
        · have e : a_ls g (i + 1) = nI j := by simp (disch := omega) only [a_ls, hs, h3, hne, n_cl, hlt, ↓reduceIte]
          refine Or.inr ⟨j, by omega, h2, e, h4, fun p g1 g2 g3 => ?_, fun p g1 g2 g3 => ?_⟩
          · by_cases g4 : p = 7 - i
            · rw [g4]; exact Int32.le_of_lt hlt
            · exact h5 p (by omega) g2 g3
          · by_cases g4 : p = 7 - i
            · rw [g4]; exact hlt
            · exact h6 p (by omega) g2 g3
        · have e : a_ls g (i + 1) = nI (7 - i) := by simp (disch := omega) only [a_ls, hs, h3, hne, n_cl, hlt, ↓reduceIte]
          have hle : g (7 - i) ≤ g j := Int32.not_lt.mp hlt
          refine Or.inr ⟨7 - i, by omega, by omega, e, hs, fun p g1 g2 g3 => ?_, fun p g1 g2 g3 => by omega⟩
          by_cases g4 : p = 7 - i
          · rw [g4]; exact Int32.le_refl _
          · exact Int32.le_trans hle (h5 p (by omega) g2 g3)
theorem lw_in (g : Nat → Int32) : ∀ n, n ≤ 8 → (a_lw g n = (nM, nI 10) ∧ ∀ p, p < n → isS (g p) = false) ∨ ∃ j, j < n ∧ a_lw g n = (nI j, g j) ∧ isS (g j) = true ∧ (∀ p, p < n → isS (g p) = true → g j ≤ g p) ∧ (∀ p, p < j → isS (g p) = true → g j < g p)
  | 0, _ => Or.inl ⟨rfl, fun p h => by omega⟩
  | n + 1, hn => by
    have ih := lw_in g n (by omega)
    have e : a_lw g (n + 1) = (if isS (g n) then (if (a_lw g n).2 ≤ g n then a_lw g n else (nI n, g n)) else a_lw g n) := rfl
    cases hs : isS (g n) with
    | false =>
      rw [hs] at e
      simp only [Bool.false_eq_true, ↓reduceIte] at e
      rw [e]
      rcases ih with ⟨h1, h2⟩ | ⟨j, h1, h3, h4, h5, h6⟩
      · refine Or.inl ⟨h1, fun p g1 => ?_⟩
        by_cases g3 : p = n
        · rw [g3]; exact hs
        · exact h2 p (by omega)
      · refine Or.inr ⟨j, by omega, h3, h4, fun p g1 g3 => ?_, h6⟩
        by_cases g4 : p = n
        · rw [g4, hs] at g3; cases g3
        · exact h5 p (by omega) g3
    | true =>
      rw [hs] at e
      simp only [↓reduceIte] at e
      rcases ih with ⟨h1, h2⟩ | ⟨j, h1, h3, h4, h5, h6⟩
      · have hlt : ¬ nI 10 ≤ g n := by
          have := isS_iff.mp hs
          have e10 : (nI 10).toInt = 10 := by decide
          rw [i_le, e10]
          omega
        rw [h1] at e
        simp only [hlt, ↓reduceIte] at e
        refine Or.inr ⟨n, by omega, e, hs, fun p g1 g3 => ?_, fun p g1 g3 => ?_⟩
        · by_cases g4 : p = n
          · rw [g4]; exact Int32.le_refl _
          · rw [h2 p (by omega)] at g3; cases g3
        · rw [h2 p (by omega)] at g3; cases g3
      · rw [h3] at e
        by_cases hle : g j ≤ g n
        · simp only [hle, ↓reduceIte] at e
          refine Or.inr ⟨j, by omega, e, h4, fun p g1 g3 => ?_, h6⟩
          by_cases g4 : p = n
          · rw [g4]; exact hle
          · exact h5 p (by omega) g3
        · simp only [hle, ↓reduceIte] at e
          have hlt : g n < g j := Int32.not_le.mp hle
          refine Or.inr ⟨n, by omega, e, hs, fun p g1 g3 => ?_, fun p g1 g3 => ?_⟩
          · by_cases g4 : p = n
            · rw [g4]; exact Int32.le_refl _
            · exact Int32.le_trans (Int32.le_of_lt hlt) (h5 p (by omega) g3)
          · exact Int32.lt_of_lt_of_le hlt (h5 p (by omega) g3)
theorem ls_lw (g : Nat → Int32) : a_ls g 8 = (a_lw g 8).1 := by
  rcases ls_in g 8 (Nat.le_refl 8) with ⟨h1, h2⟩ | ⟨j, h1, h2, h3, h4, h5, h6⟩ <;> rcases lw_in g 8 (Nat.le_refl 8) with ⟨k1, k2⟩ | ⟨i, k1, k3, k4, k5, k6⟩
  · rw [h1, k1]
  · have := h2 i (by omega) k1
    rw [k4] at this
    cases this
  · have := k2 j h2
    rw [h4] at this
    cases this
  · have e : j = i := by
      rcases Nat.lt_trichotomy j i with g1 | g1 | g1
      · exact absurd (k6 j g1 h4) (Int32.not_lt.mpr (h5 i (by omega) k1 k4))
      · exact g1
      · exact absurd (h6 i (by omega) g1 k4) (Int32.not_lt.mpr (k5 j h2 h4))
    rw [h3, k3, e]
section MO
variable {S : PH} {G : Nat → Nat} {m n : Nat} {v : AS}
theorem o_lowest (h : RM S G m) (hc : cr (p_I S (rf S m 1)) 0 n v) (hn : n ≤ 8) {q : Nat} (hq : q < n) : m_X5_lowestScorer (some m) (nI q) S = some ((a_lw (v (20 + q)) 8).1, S) := by
  rw [← ls_lw]
  unfold m_X5_lowestScorer
  refine lpF 8 (fun i => (a_ls (v (20 + q)) i, if i = 8 then nM else nI (7 - i), S)) _ rfl (fun i hi => ?_) ?_
  · have e1 : (if i = 8 then nM else nI (7 - i)) = nI (7 - i) := if_neg (by omega)
    have e2 : nI (7 - i) + nM = (if i + 1 = 8 then nM else nI (7 - (i + 1))) := by
      rcases (show i = 0 ∨ i = 1 ∨ i = 2 ∨ i = 3 ∨ i = 4 ∨ i = 5 ∨ i = 6 ∨ i = 7 by omega) with rfl | rfl | rfl | rfl | rfl | rfl | rfl | rfl <;> decide
    have hp : ¬ nI (7 - i) < nI 0 := nI_nlt (by omega) (by omega)
    rw [e1, ← e2]
    have hs : ∀ j, j < 8 → m_X5_scoreOf (some m) (nI j) (nI q) S = some (v (20 + q) j, S) := fun j hj => o_score h hc hn hj hq
    rcases ls_in (v (20 + q)) i (by omega) with ⟨h1, h2⟩ | ⟨j, h1, h2, h3, h4, h5, h6⟩
    · simp (disch := omega) only [st_X5_lowestScorer_5, j_X5_lowestScorer_43, h.mm, o_isWritten h hc hn, hs, hp, h1, z_0, z_1, z_2, z_3, z_4, z_5, z_6, z_7, z_8, z_9, z_10, z_12, z_13, z_15, z_17, z_20, z_25, z_31, z_33, z_41, z_49, z_57, z_60, z_72, z_100, z_161, z_255, z_256, z_999, z_9999, of_n, nI_add, pk_mul, n_le, n_lt, n_eq, n_cl, ck_n, ck_d, ck_tr, le_t, bd_t, ir_t, bt_r, bt_l, b_t, b_f, b_lt, b_lf, b_ef, z_m1, b_i0, b_i1, z_not, z_ps, f_mb, f_rf, ↓reduceIte, Nat.zero_add, Nat.add_zero, Nat.one_mul, Nat.mul_one, Nat.zero_mul, Nat.mul_zero, not_true_eq_false, not_false_eq_true, a_ls]
      repeat' (split <;> rename_i hc <;> (try simp only [hc, ↓reduceIte, not_false_eq_true, Bool.false_eq_true, decide_true, decide_false, Bool.not_true, Bool.not_false, Bool.false_and, Bool.true_and]) <;> try rfl)
    · have hne : ¬ nI j = nM := nM_ne (by omega)
      simp (disch := omega) only [st_X5_lowestScorer_5, j_X5_lowestScorer_43, h.mm, o_isWritten h hc hn, hs, hp, h3, hne, z_0, z_1, z_2, z_3, z_4, z_5, z_6, z_7, z_8, z_9, z_10, z_12, z_13, z_15, z_17, z_20, z_25, z_31, z_33, z_41, z_49, z_57, z_60, z_72, z_100, z_161, z_255, z_256, z_999, z_9999, of_n, nI_add, pk_mul, n_le, n_lt, n_eq, n_cl, ck_n, ck_d, ck_tr, le_t, bd_t, ir_t, bt_r, bt_l, b_t, b_f, b_lt, b_lf, b_ef, z_m1, b_i0, b_i1, z_not, z_ps, f_mb, f_rf, ↓reduceIte, Nat.zero_add, Nat.add_zero, Nat.one_mul, Nat.mul_one, Nat.zero_mul, Nat.mul_zero, not_true_eq_false, not_false_eq_true, a_ls]
      repeat' (split <;> rename_i hc <;> (try simp only [hc, ↓reduceIte, not_false_eq_true, Bool.false_eq_true, decide_true, decide_false, Bool.not_true, Bool.not_false, Bool.false_and, Bool.true_and]) <;> try rfl)
  · simp (disch := omega) only [st_X5_lowestScorer_5, z_0, z_1, z_2, z_3, z_4, z_5, z_6, z_7, z_8, z_9, z_10, z_12, z_13, z_15, z_17, z_20, z_25, z_31, z_33, z_41, z_49, z_57, z_60, z_72, z_100, z_161, z_255, z_256, z_999, z_9999, of_n, nI_add, pk_mul, n_le, n_lt, n_eq, n_cl, ck_n, ck_d, ck_tr, le_t, bd_t, ir_t, bt_r, bt_l, b_t, b_f, b_lt, b_lf, b_ef, z_m1, b_i0, b_i1, z_not, z_ps, f_mb, f_rf, ↓reduceIte, Nat.zero_add, Nat.add_zero, Nat.one_mul, Nat.mul_one, Nat.zero_mul, Nat.mul_zero, not_true_eq_false, not_false_eq_true]
    rfl
def dd (g : Nat → Int32) (p q : Nat) : Int32 := if isS (g p) then (if isS (g q) then g p - g q else nI 0) else nI 0
def a_d1 (g : Nat → Int32) (p : Nat) (a : Int32) : Int32 := fo (fun q m => if dd g p q ≤ m then m else dd g p q) 8 a
def a_dif (g : Nat → Int32) : Int32 := fo (fun p m => a_d1 g p m) 8 (nI 0)
theorem o_dif (h : RM S G m) (hc : cr (p_I S (rf S m 1)) 0 n v) (hn : n ≤ 8) {q : Nat} (hq : q < n) : m_X5_difference (some m) (nI q) S = some (a_dif (v (20 + q)), S) := by
  unfold m_X5_difference
  refine lpF 8 (fun i => (fo (fun p m => a_d1 (v (20 + q)) p m) i (nI 0), nI i, S)) _ rfl (fun i hi => ?_) ?_
  · have key : ∀ a, lp (st_X5_difference_13 (some m) (nI q)) (a, nI i, nI 0, S) = some (.inl (a_d1 (v (20 + q)) i a, nI (i + 1), S)) := by
      intro a
      refine lpF 8 (fun k => (fo (fun q' m => if dd (v (20 + q)) i q' ≤ m then m else dd (v (20 + q)) i q') k a, nI i, nI k, S)) _ rfl (fun k hk => ?_) ?_
      · simp (disch := omega) only [st_X5_difference_13, j_X5_difference_57, h.mm, o_isWritten h hc hn, o_score h hc hn, z_0, z_1, z_2, z_3, z_4, z_5, z_6, z_7, z_8, z_9, z_10, z_12, z_13, z_15, z_17, z_20, z_25, z_31, z_33, z_41, z_49, z_57, z_60, z_72, z_100, z_161, z_255, z_256, z_999, z_9999, of_n, nI_add, pk_mul, n_le, n_lt, n_eq, n_cl, ck_n, ck_d, ck_tr, le_t, bd_t, ir_t, bt_r, bt_l, b_t, b_f, b_lt, b_lf, b_ef, z_m1, b_i0, b_i1, z_not, z_ps, f_mb, f_rf, ↓reduceIte, Nat.zero_add, Nat.add_zero, Nat.one_mul, Nat.mul_one, Nat.zero_mul, Nat.mul_zero, not_true_eq_false, not_false_eq_true, fo, dd]
        repeat' (split <;> rename_i hc <;> (try simp only [hc, ↓reduceIte, not_false_eq_true, Bool.false_eq_true, decide_true, decide_false, Bool.not_true, Bool.not_false, Bool.false_and, Bool.true_and]) <;> try rfl)
      · simp (disch := omega) only [st_X5_difference_13, z_0, z_1, z_2, z_3, z_4, z_5, z_6, z_7, z_8, z_9, z_10, z_12, z_13, z_15, z_17, z_20, z_25, z_31, z_33, z_41, z_49, z_57, z_60, z_72, z_100, z_161, z_255, z_256, z_999, z_9999, of_n, nI_add, pk_mul, n_le, n_lt, n_eq, n_cl, ck_n, ck_d, ck_tr, le_t, bd_t, ir_t, bt_r, bt_l, b_t, b_f, b_lt, b_lf, b_ef, z_m1, b_i0, b_i1, z_not, z_ps, f_mb, f_rf, ↓reduceIte, Nat.zero_add, Nat.add_zero, Nat.one_mul, Nat.mul_one, Nat.zero_mul, Nat.mul_zero, not_true_eq_false, not_false_eq_true, a_d1]
    simp (disch := omega) only [st_X5_difference_4, z_0, z_1, z_2, z_3, z_4, z_5, z_6, z_7, z_8, z_9, z_10, z_12, z_13, z_15, z_17, z_20, z_25, z_31, z_33, z_41, z_49, z_57, z_60, z_72, z_100, z_161, z_255, z_256, z_999, z_9999, of_n, nI_add, pk_mul, n_le, n_lt, n_eq, n_cl, ck_n, ck_d, ck_tr, le_t, bd_t, ir_t, bt_r, bt_l, b_t, b_f, b_lt, b_lf, b_ef, z_m1, b_i0, b_i1, z_not, z_ps, f_mb, f_rf, ↓reduceIte, Nat.zero_add, Nat.add_zero, Nat.one_mul, Nat.mul_one, Nat.zero_mul, Nat.mul_zero, not_true_eq_false, not_false_eq_true, key, fo]
  · simp (disch := omega) only [st_X5_difference_4, z_0, z_1, z_2, z_3, z_4, z_5, z_6, z_7, z_8, z_9, z_10, z_12, z_13, z_15, z_17, z_20, z_25, z_31, z_33, z_41, z_49, z_57, z_60, z_72, z_100, z_161, z_255, z_256, z_999, z_9999, of_n, nI_add, pk_mul, n_le, n_lt, n_eq, n_cl, ck_n, ck_d, ck_tr, le_t, bd_t, ir_t, bt_r, bt_l, b_t, b_f, b_lt, b_lf, b_ef, z_m1, b_i0, b_i1, z_not, z_ps, f_mb, f_rf, ↓reduceIte, Nat.zero_add, Nat.add_zero, Nat.one_mul, Nat.mul_one, Nat.zero_mul, Nat.mul_zero, not_true_eq_false, not_false_eq_true, a_dif]
end MO
