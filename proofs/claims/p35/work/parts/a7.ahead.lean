/-! THE LAW LOOKS AHEAD: one person -/
section AH
variable {S : PH} {G : Nat → Nat} {x nw : Nat} {v : AS} {hs : List AS} {nx : Nat} {sl : Nat → Option AS} {tn : Nat} {tx : Nat → Int32} {p q n : Nat} {M B fw : Int32}
theorem why_tell (v : AS) (p q : Nat) : (v 9 q = nI 0 ∧ v (20 + q) p = nM ∧ a_bc (a_rev (v (20 + q))) < v 11 0 ∧ ((hb (a_conf v q) (nI p) = true ∧ a_why v p q = nI 4) ∨ (hb (a_conf v q) (nI p) = false ∧ (a_why v p q = nI 5 ∨ a_why v p q = nI 6 ∨ a_why v p q = nI 0)))) ∨ (¬ v 9 q = nI 0 ∧ a_why v p q = nI 1) ∨ (v 9 q = nI 0 ∧ ¬ v (20 + q) p = nM ∧ a_why v p q = nI 2) ∨ (v 9 q = nI 0 ∧ v (20 + q) p = nM ∧ ¬ a_bc (a_rev (v (20 + q))) < v 11 0 ∧ a_why v p q = nI 3) := by
  unfold a_why
  by_cases h1 : v 9 q = nI 0
  · by_cases h2 : v (20 + q) p = nM
    · by_cases h3 : a_bc (a_rev (v (20 + q))) < v 11 0
      · rw [if_pos h1, if_pos h2, if_pos h3]
        refine Or.inl ⟨h1, h2, h3, ?_⟩
        by_cases h4 : hb (a_conf v q) (nI p) = true
        · exact Or.inl ⟨h4, if_pos h4⟩
        · rw [if_neg h4]
          refine Or.inr ⟨Bool.eq_false_iff.mpr h4, ?_⟩
          by_cases h5 : hb (v 0 p) (v 5 q) = true
          · rw [if_pos h5]
            by_cases h6 : nI 2 ≤ a_tok v p
            · exact Or.inr (Or.inr (if_pos h6))
            · exact Or.inr (Or.inl (if_neg h6))
          · exact Or.inl (if_neg h5)
      · rw [if_pos h1, if_pos h2, if_neg h3]
        exact Or.inr (Or.inr (Or.inr ⟨h1, h2, h3, rfl⟩))
    · rw [if_pos h1, if_neg h2]
      exact Or.inr (Or.inr (Or.inl ⟨h1, h2, rfl⟩))
  · rw [if_neg h1]
    exact Or.inr (Or.inl ⟨h1, rfl⟩)
theorem per_8 : a_per v p 8 = a_pic v p := rfl
theorem h_230 (h : RelC S G x nw v hs nx sl tn tx) (hI : IV v) (hn : v 12 0 = nI n) (h8 : n ≤ 8) (hq : q < n) (hp : p < 8) (h0 : a_why v p q = nI 0 → fw = nI 0 ∧ ¬ B < nI 0) : j_L_isAhead_230 (some x) (nI q) M B (nI p) (a_why v p q) fw S = some (.inl (M, B, nI 1, nI (p + 1), S)) := by
  have en := an_e hn h8
  have pc : hb (a_pic v p) (nI q) = hb (a_conf v q) (nI p) := by
    have := pic_hb v p (a_n v) (by rw [en]; exact h8) q (by omega)
    rw [en, decide_eq_true hq, Bool.true_and] at this
    show hb (fo _ (a_n v) (nI 0)) (nI q) = _
    rw [en]; exact this
  have on := rev_on (v (20 + q))
  have sle : (v 11 0 ≤ a_bc (a_rev (v (20 + q)))) = ¬ (a_bc (a_rev (v (20 + q))) < v 11 0) := propext (by rw [i_le, i_lt]; omega)
  by_cases hc : hb (a_conf v q) (nI p) = true
  · have pt : ((a_pic v p >>> (nI q &&& nI 31)) &&& nI 1) = nI 1 := of_decide_eq_true (pc.trans hc)
    rcases why_tell v p q with ⟨k1, k2, k3, ⟨k4, k5⟩ | ⟨k4, k5⟩⟩ | ⟨k1, k5⟩ | ⟨k1, k2, k5⟩ | ⟨k1, k2, k3, k5⟩
    · simp (disch := omega) only [j_L_isAhead_230, j_L_isAhead_253, j_L_isAhead_271, j_L_isAhead_314, j_L_isAhead_328, h.rc.x4, g_per h hI, per_8, g_pap h hI hn h8 hq, a_pap, g_sco h hI hn h8, g_set h, p_bits, on, sle, pt, k1, k2, k3, k5, z_0, z_1, z_2, z_3, z_4, z_5, z_6, z_7, z_8, z_9, z_10, z_12, z_13, z_15, z_17, z_20, z_25, z_31, z_33, z_41, z_49, z_57, z_60, z_72, z_100, z_161, z_255, z_256, z_999, z_9999, of_n, nI_add, pk_mul, n_le, n_lt, n_eq, n_cl, ck_n, ck_d, ck_tr, le_t, bd_t, ir_t, bt_r, bt_l, b_t, b_f, b_lt, b_lf, b_ef, z_m1, b_i0, b_i1, z_not, z_ps, f_mb, f_rf, ↓reduceIte, Nat.zero_add, Nat.add_zero, Nat.one_mul, Nat.mul_one, Nat.zero_mul, Nat.mul_zero, not_true_eq_false, not_false_eq_true]
    · exact absurd (k4.symm.trans hc) (by decide)
    · simp (disch := omega) only [j_L_isAhead_230, j_L_isAhead_253, j_L_isAhead_271, j_L_isAhead_314, j_L_isAhead_328, h.rc.x4, g_per h hI, per_8, g_pap h hI hn h8 hq, a_pap, g_sco h hI hn h8, g_set h, p_bits, on, sle, pt, k1, k5, z_0, z_1, z_2, z_3, z_4, z_5, z_6, z_7, z_8, z_9, z_10, z_12, z_13, z_15, z_17, z_20, z_25, z_31, z_33, z_41, z_49, z_57, z_60, z_72, z_100, z_161, z_255, z_256, z_999, z_9999, of_n, nI_add, pk_mul, n_le, n_lt, n_eq, n_cl, ck_n, ck_d, ck_tr, le_t, bd_t, ir_t, bt_r, bt_l, b_t, b_f, b_lt, b_lf, b_ef, z_m1, b_i0, b_i1, z_not, z_ps, f_mb, f_rf, ↓reduceIte, Nat.zero_add, Nat.add_zero, Nat.one_mul, Nat.mul_one, Nat.zero_mul, Nat.mul_zero, not_true_eq_false, not_false_eq_true]
    · simp (disch := omega) only [j_L_isAhead_230, j_L_isAhead_253, j_L_isAhead_271, j_L_isAhead_314, j_L_isAhead_328, h.rc.x4, g_per h hI, per_8, g_pap h hI hn h8 hq, a_pap, g_sco h hI hn h8, g_set h, p_bits, on, sle, pt, k1, k2, k5, z_0, z_1, z_2, z_3, z_4, z_5, z_6, z_7, z_8, z_9, z_10, z_12, z_13, z_15, z_17, z_20, z_25, z_31, z_33, z_41, z_49, z_57, z_60, z_72, z_100, z_161, z_255, z_256, z_999, z_9999, of_n, nI_add, pk_mul, n_le, n_lt, n_eq, n_cl, ck_n, ck_d, ck_tr, le_t, bd_t, ir_t, bt_r, bt_l, b_t, b_f, b_lt, b_lf, b_ef, z_m1, b_i0, b_i1, z_not, z_ps, f_mb, f_rf, ↓reduceIte, Nat.zero_add, Nat.add_zero, Nat.one_mul, Nat.mul_one, Nat.zero_mul, Nat.mul_zero, not_true_eq_false, not_false_eq_true]
    · simp (disch := omega) only [j_L_isAhead_230, j_L_isAhead_253, j_L_isAhead_271, j_L_isAhead_314, j_L_isAhead_328, h.rc.x4, g_per h hI, per_8, g_pap h hI hn h8 hq, a_pap, g_sco h hI hn h8, g_set h, p_bits, on, sle, pt, k1, k2, k3, k5, z_0, z_1, z_2, z_3, z_4, z_5, z_6, z_7, z_8, z_9, z_10, z_12, z_13, z_15, z_17, z_20, z_25, z_31, z_33, z_41, z_49, z_57, z_60, z_72, z_100, z_161, z_255, z_256, z_999, z_9999, of_n, nI_add, pk_mul, n_le, n_lt, n_eq, n_cl, ck_n, ck_d, ck_tr, le_t, bd_t, ir_t, bt_r, bt_l, b_t, b_f, b_lt, b_lf, b_ef, z_m1, b_i0, b_i1, z_not, z_ps, f_mb, f_rf, ↓reduceIte, Nat.zero_add, Nat.add_zero, Nat.one_mul, Nat.mul_one, Nat.zero_mul, Nat.mul_zero, not_true_eq_false, not_false_eq_true]
  · have pf : ¬ ((a_pic v p >>> (nI q &&& nI 31)) &&& nI 1) = nI 1 := fun z => hc (pc.symm.trans (decide_eq_true z))
    rcases why_tell v p q with ⟨k1, k2, k3, ⟨k4, k5⟩ | ⟨k4, k5 | k5 | k5⟩⟩ | ⟨k1, k5⟩ | ⟨k1, k2, k5⟩ | ⟨k1, k2, k3, k5⟩
    · exact absurd k4 hc
    · simp (disch := omega) only [j_L_isAhead_230, j_L_isAhead_253, j_L_isAhead_271, j_L_isAhead_314, j_L_isAhead_328, h.rc.x4, g_per h hI, per_8, g_pap h hI hn h8 hq, a_pap, g_sco h hI hn h8, g_set h, p_bits, on, sle, pf, k1, k2, k3, k5, z_0, z_1, z_2, z_3, z_4, z_5, z_6, z_7, z_8, z_9, z_10, z_12, z_13, z_15, z_17, z_20, z_25, z_31, z_33, z_41, z_49, z_57, z_60, z_72, z_100, z_161, z_255, z_256, z_999, z_9999, of_n, nI_add, pk_mul, n_le, n_lt, n_eq, n_cl, ck_n, ck_d, ck_tr, le_t, bd_t, ir_t, bt_r, bt_l, b_t, b_f, b_lt, b_lf, b_ef, z_m1, b_i0, b_i1, z_not, z_ps, f_mb, f_rf, ↓reduceIte, Nat.zero_add, Nat.add_zero, Nat.one_mul, Nat.mul_one, Nat.zero_mul, Nat.mul_zero, not_true_eq_false, not_false_eq_true]
    · simp (disch := omega) only [z_6, j_L_isAhead_230, j_L_isAhead_253, j_L_isAhead_271, j_L_isAhead_314, j_L_isAhead_328, h.rc.x4, g_per h hI, per_8, g_pap h hI hn h8 hq, a_pap, g_sco h hI hn h8, g_set h, p_bits, on, sle, pf, k1, k2, k3, k5, z_0, z_1, z_2, z_3, z_4, z_5, z_6, z_7, z_8, z_9, z_10, z_12, z_13, z_15, z_17, z_20, z_25, z_31, z_33, z_41, z_49, z_57, z_60, z_72, z_100, z_161, z_255, z_256, z_999, z_9999, of_n, nI_add, pk_mul, n_le, n_lt, n_eq, n_cl, ck_n, ck_d, ck_tr, le_t, bd_t, ir_t, bt_r, bt_l, b_t, b_f, b_lt, b_lf, b_ef, z_m1, b_i0, b_i1, z_not, z_ps, f_mb, f_rf, ↓reduceIte, Nat.zero_add, Nat.add_zero, Nat.one_mul, Nat.mul_one, Nat.zero_mul, Nat.mul_zero, not_true_eq_false, not_false_eq_true]
    · obtain ⟨f0, b0⟩ := h0 k5
      subst f0
      simp (disch := omega) only [j_L_isAhead_230, j_L_isAhead_253, h.rc.x4, g_per h hI, per_8, pf, b0, k5, z_0, z_1, z_2, z_3, z_4, z_5, z_6, z_7, z_8, z_9, z_10, z_12, z_13, z_15, z_17, z_20, z_25, z_31, z_33, z_41, z_49, z_57, z_60, z_72, z_100, z_161, z_255, z_256, z_999, z_9999, of_n, nI_add, pk_mul, n_le, n_lt, n_eq, n_cl, ck_n, ck_d, ck_tr, le_t, bd_t, ir_t, bt_r, bt_l, b_t, b_f, b_lt, b_lf, b_ef, z_m1, b_i0, b_i1, z_not, z_ps, f_mb, f_rf, ↓reduceIte, Nat.zero_add, Nat.add_zero, Nat.one_mul, Nat.mul_one, Nat.zero_mul, Nat.mul_zero, not_true_eq_false, not_false_eq_true]
    · simp (disch := omega) only [j_L_isAhead_230, j_L_isAhead_253, j_L_isAhead_271, j_L_isAhead_314, j_L_isAhead_328, h.rc.x4, g_per h hI, per_8, g_pap h hI hn h8 hq, a_pap, g_sco h hI hn h8, g_set h, p_bits, on, sle, pf, k1, k5, z_0, z_1, z_2, z_3, z_4, z_5, z_6, z_7, z_8, z_9, z_10, z_12, z_13, z_15, z_17, z_20, z_25, z_31, z_33, z_41, z_49, z_57, z_60, z_72, z_100, z_161, z_255, z_256, z_999, z_9999, of_n, nI_add, pk_mul, n_le, n_lt, n_eq, n_cl, ck_n, ck_d, ck_tr, le_t, bd_t, ir_t, bt_r, bt_l, b_t, b_f, b_lt, b_lf, b_ef, z_m1, b_i0, b_i1, z_not, z_ps, f_mb, f_rf, ↓reduceIte, Nat.zero_add, Nat.add_zero, Nat.one_mul, Nat.mul_one, Nat.zero_mul, Nat.mul_zero, not_true_eq_false, not_false_eq_true]
    · simp (disch := omega) only [j_L_isAhead_230, j_L_isAhead_253, j_L_isAhead_271, j_L_isAhead_314, j_L_isAhead_328, h.rc.x4, g_per h hI, per_8, g_pap h hI hn h8 hq, a_pap, g_sco h hI hn h8, g_set h, p_bits, on, sle, pf, k1, k2, k5, z_0, z_1, z_2, z_3, z_4, z_5, z_6, z_7, z_8, z_9, z_10, z_12, z_13, z_15, z_17, z_20, z_25, z_31, z_33, z_41, z_49, z_57, z_60, z_72, z_100, z_161, z_255, z_256, z_999, z_9999, of_n, nI_add, pk_mul, n_le, n_lt, n_eq, n_cl, ck_n, ck_d, ck_tr, le_t, bd_t, ir_t, bt_r, bt_l, b_t, b_f, b_lt, b_lf, b_ef, z_m1, b_i0, b_i1, z_not, z_ps, f_mb, f_rf, ↓reduceIte, Nat.zero_add, Nat.add_zero, Nat.one_mul, Nat.mul_one, Nat.zero_mul, Nat.mul_zero, not_true_eq_false, not_false_eq_true]
    · simp (disch := omega) only [j_L_isAhead_230, j_L_isAhead_253, j_L_isAhead_271, j_L_isAhead_314, j_L_isAhead_328, h.rc.x4, g_per h hI, per_8, g_pap h hI hn h8 hq, a_pap, g_sco h hI hn h8, g_set h, p_bits, on, sle, pf, k1, k2, k3, k5, z_0, z_1, z_2, z_3, z_4, z_5, z_6, z_7, z_8, z_9, z_10, z_12, z_13, z_15, z_17, z_20, z_25, z_31, z_33, z_41, z_49, z_57, z_60, z_72, z_100, z_161, z_255, z_256, z_999, z_9999, of_n, nI_add, pk_mul, n_le, n_lt, n_eq, n_cl, ck_n, ck_d, ck_tr, le_t, bd_t, ir_t, bt_r, bt_l, b_t, b_f, b_lt, b_lf, b_ef, z_m1, b_i0, b_i1, z_not, z_ps, f_mb, f_rf, ↓reduceIte, Nat.zero_add, Nat.add_zero, Nat.one_mul, Nat.mul_one, Nat.zero_mul, Nat.mul_zero, not_true_eq_false, not_false_eq_true]
theorem h_130 (h : RelC S G x nw v hs nx sl tn tx) (hI : IV v) (hn : v 12 0 = nI n) (h8 : n ≤ 8) (hq : q < n) (hp : p < 8) : st_L_isAhead_130 (some x) (nI q) (M, a_best v q, nI 1, nI p, S) = some (.inl (M, a_best v q, nI 1, nI (p + 1), S)) := by
  rcases best_in v q with ⟨b1, b2⟩ | ⟨j, hj, b1, b2, b3⟩
  · rw [b1]
    have k := h_230 (M := M) (B := nM) (fw := nI 0) h hI hn h8 hq hp (fun z => absurd z (b2 p hp))
    simp (disch := omega) only [st_L_isAhead_130, h.rc.x4, g_why h hI hn h8, lt_M, k, z_0, z_1, z_2, z_3, z_4, z_5, z_6, z_7, z_8, z_9, z_10, z_12, z_13, z_15, z_17, z_20, z_25, z_31, z_33, z_41, z_49, z_57, z_60, z_72, z_100, z_161, z_255, z_256, z_999, z_9999, of_n, nI_add, pk_mul, n_le, n_lt, n_eq, n_cl, ck_n, ck_d, ck_tr, le_t, bd_t, ir_t, bt_r, bt_l, b_t, b_f, b_lt, b_lf, b_ef, z_m1, b_i0, b_i1, z_not, z_ps, f_mb, f_rf, ↓reduceIte, Nat.zero_add, Nat.add_zero, Nat.one_mul, Nat.mul_one, Nat.zero_mul, Nat.mul_zero, not_true_eq_false, not_false_eq_true]
  · rw [b1]
    have nb : ¬ nI j < nI 0 := by rw [nI_ltI (by omega) (by omega)]; omega
    by_cases g1 : a_load v p < a_load v j
    · have k := h_230 (M := M) (B := nI j) (fw := nI 1) h hI hn h8 hq hp (fun z => by
        have := (b3 p hp z).1
        rw [i_lt] at g1
        omega)
      simp (disch := omega) only [st_L_isAhead_130, h.rc.x4, g_why h hI hn h8, g_per h hI, a_per, g1, nb, k, z_0, z_1, z_2, z_3, z_4, z_5, z_6, z_7, z_8, z_9, z_10, z_12, z_13, z_15, z_17, z_20, z_25, z_31, z_33, z_41, z_49, z_57, z_60, z_72, z_100, z_161, z_255, z_256, z_999, z_9999, of_n, nI_add, pk_mul, n_le, n_lt, n_eq, n_cl, ck_n, ck_d, ck_tr, le_t, bd_t, ir_t, bt_r, bt_l, b_t, b_f, b_lt, b_lf, b_ef, z_m1, b_i0, b_i1, z_not, z_ps, f_mb, f_rf, ↓reduceIte, Nat.zero_add, Nat.add_zero, Nat.one_mul, Nat.mul_one, Nat.zero_mul, Nat.mul_zero, not_true_eq_false, not_false_eq_true]
    · by_cases g2 : a_load v p = a_load v j
      · by_cases g3 : a_tok v j < a_tok v p
        · have k := h_230 (M := M) (B := nI j) (fw := nI 1) h hI hn h8 hq hp (fun z => by
            have := ((b3 p hp z).2 (by rw [g2])).1
            rw [i_lt] at g3
            omega)
          simp (disch := omega) only [st_L_isAhead_130, h.rc.x4, g_why h hI hn h8, g_per h hI, a_per, g1, g2, g3, nb, k, Int32.lt_irrefl, z_0, z_1, z_2, z_3, z_4, z_5, z_6, z_7, z_8, z_9, z_10, z_12, z_13, z_15, z_17, z_20, z_25, z_31, z_33, z_41, z_49, z_57, z_60, z_72, z_100, z_161, z_255, z_256, z_999, z_9999, of_n, nI_add, pk_mul, n_le, n_lt, n_eq, n_cl, ck_n, ck_d, ck_tr, le_t, bd_t, ir_t, bt_r, bt_l, b_t, b_f, b_lt, b_lf, b_ef, z_m1, b_i0, b_i1, z_not, z_ps, f_mb, f_rf, ↓reduceIte, Nat.zero_add, Nat.add_zero, Nat.one_mul, Nat.mul_one, Nat.zero_mul, Nat.mul_zero, not_true_eq_false, not_false_eq_true]
        · by_cases g4 : a_tok v p = a_tok v j
          · by_cases g5 : j ≤ p
            · have k := h_230 (M := M) (B := nI j) (fw := nI 0) h hI hn h8 hq hp (fun z => ⟨rfl, nb⟩)
              simp (disch := omega) only [st_L_isAhead_130, h.rc.x4, g_why h hI hn h8, g_per h hI, a_per, g1, g2, g3, g4, nb, k, Int32.lt_irrefl, z_0, z_1, z_2, z_3, z_4, z_5, z_6, z_7, z_8, z_9, z_10, z_12, z_13, z_15, z_17, z_20, z_25, z_31, z_33, z_41, z_49, z_57, z_60, z_72, z_100, z_161, z_255, z_256, z_999, z_9999, of_n, nI_add, pk_mul, n_le, n_lt, n_eq, n_cl, ck_n, ck_d, ck_tr, le_t, bd_t, ir_t, bt_r, bt_l, b_t, b_f, b_lt, b_lf, b_ef, z_m1, b_i0, b_i1, z_not, z_ps, f_mb, f_rf, ↓reduceIte, Nat.zero_add, Nat.add_zero, Nat.one_mul, Nat.mul_one, Nat.zero_mul, Nat.mul_zero, not_true_eq_false, not_false_eq_true]
            · have k := h_230 (M := M) (B := nI j) (fw := nI 1) h hI hn h8 hq hp (fun z => by
                have := ((b3 p hp z).2 (by rw [g2])).2 (by rw [g4])
                omega)
              simp (disch := omega) only [st_L_isAhead_130, h.rc.x4, g_why h hI hn h8, g_per h hI, a_per, g1, g2, g3, g4, nb, k, Int32.lt_irrefl, z_0, z_1, z_2, z_3, z_4, z_5, z_6, z_7, z_8, z_9, z_10, z_12, z_13, z_15, z_17, z_20, z_25, z_31, z_33, z_41, z_49, z_57, z_60, z_72, z_100, z_161, z_255, z_256, z_999, z_9999, of_n, nI_add, pk_mul, n_le, n_lt, n_eq, n_cl, ck_n, ck_d, ck_tr, le_t, bd_t, ir_t, bt_r, bt_l, b_t, b_f, b_lt, b_lf, b_ef, z_m1, b_i0, b_i1, z_not, z_ps, f_mb, f_rf, ↓reduceIte, Nat.zero_add, Nat.add_zero, Nat.one_mul, Nat.mul_one, Nat.zero_mul, Nat.mul_zero, not_true_eq_false, not_false_eq_true]
          · have k := h_230 (M := M) (B := nI j) (fw := nI 0) h hI hn h8 hq hp (fun z => ⟨rfl, nb⟩)
            simp (disch := omega) only [st_L_isAhead_130, h.rc.x4, g_why h hI hn h8, g_per h hI, a_per, g1, g2, g3, g4, nb, k, Int32.lt_irrefl, z_0, z_1, z_2, z_3, z_4, z_5, z_6, z_7, z_8, z_9, z_10, z_12, z_13, z_15, z_17, z_20, z_25, z_31, z_33, z_41, z_49, z_57, z_60, z_72, z_100, z_161, z_255, z_256, z_999, z_9999, of_n, nI_add, pk_mul, n_le, n_lt, n_eq, n_cl, ck_n, ck_d, ck_tr, le_t, bd_t, ir_t, bt_r, bt_l, b_t, b_f, b_lt, b_lf, b_ef, z_m1, b_i0, b_i1, z_not, z_ps, f_mb, f_rf, ↓reduceIte, Nat.zero_add, Nat.add_zero, Nat.one_mul, Nat.mul_one, Nat.zero_mul, Nat.mul_zero, not_true_eq_false, not_false_eq_true]
      · have k := h_230 (M := M) (B := nI j) (fw := nI 0) h hI hn h8 hq hp (fun z => ⟨rfl, nb⟩)
        simp (disch := omega) only [st_L_isAhead_130, h.rc.x4, g_why h hI hn h8, g_per h hI, a_per, g1, g2, nb, k, z_0, z_1, z_2, z_3, z_4, z_5, z_6, z_7, z_8, z_9, z_10, z_12, z_13, z_15, z_17, z_20, z_25, z_31, z_33, z_41, z_49, z_57, z_60, z_72, z_100, z_161, z_255, z_256, z_999, z_9999, of_n, nI_add, pk_mul, n_le, n_lt, n_eq, n_cl, ck_n, ck_d, ck_tr, le_t, bd_t, ir_t, bt_r, bt_l, b_t, b_f, b_lt, b_lf, b_ef, z_m1, b_i0, b_i1, z_not, z_ps, f_mb, f_rf, ↓reduceIte, Nat.zero_add, Nat.add_zero, Nat.one_mul, Nat.mul_one, Nat.zero_mul, Nat.mul_zero, not_true_eq_false, not_false_eq_true]
theorem h_l130 (h : RelC S G x nw v hs nx sl tn tx) (hI : IV v) (hn : v 12 0 = nI n) (h8 : n ≤ 8) (hq : q < n) : ∃ S', lp (st_L_isAhead_130 (some x) (nI q)) (nI (m_v v nM), a_best v q, nI 1, nI 0, S) = some (.inr (nI 1), S') ∧ RelC S' G x nw v hs nx sl tn tx := by
  obtain ⟨S', e1, h'⟩ := g_most h hI (w := 0) (by omega)
  refine ⟨S', ?_, h'⟩
  refine lpF 8 (fun i => (nI (m_v v nM), a_best v q, nI 1, nI i, S)) _ rfl (fun i hi => h_130 h hI hn h8 hq hi) ?_
  simp (disch := omega) only [st_L_isAhead_130, j_L_isAhead_374, h.rc.x4, e1, z_0, z_1, z_2, z_3, z_4, z_5, z_6, z_7, z_8, z_9, z_10, z_12, z_13, z_15, z_17, z_20, z_25, z_31, z_33, z_41, z_49, z_57, z_60, z_72, z_100, z_161, z_255, z_256, z_999, z_9999, of_n, nI_add, pk_mul, n_le, n_lt, n_eq, n_cl, ck_n, ck_d, ck_tr, le_t, bd_t, ir_t, bt_r, bt_l, b_t, b_f, b_lt, b_lf, b_ef, z_m1, b_i0, b_i1, z_not, z_ps, f_mb, f_rf, ↓reduceIte, Nat.zero_add, Nat.add_zero, Nat.one_mul, Nat.mul_one, Nat.zero_mul, Nat.mul_zero, not_true_eq_false, not_false_eq_true]
/-- any paper has a best reviewer -/
def anyB (v : AS) : Nat → Bool
  | 0 => false
  | i + 1 => anyB v i || !decide (a_best v i = nM)
theorem any_in (v : AS) : ∀ i, anyB v i = true ↔ ∃ q, q < i ∧ ¬ a_best v q = nM
  | 0 => ⟨fun h => absurd (show false = true from h) (by decide), fun ⟨q, h, _⟩ => absurd h (by omega)⟩
  | i + 1 => by
    have ih := any_in v i
    show (anyB v i || !decide (a_best v i = nM)) = true ↔ _
    rw [Bool.or_eq_true, ih, Bool.not_eq_true', decide_eq_false_iff_not]
    constructor
    · rintro (⟨q, h1, h2⟩ | h)
      · exact ⟨q, by omega, h2⟩
      · exact ⟨i, by omega, h⟩
    · rintro ⟨q, h1, h2⟩
      by_cases e : q = i
      · right; rw [← e]; exact h2
      · left; exact ⟨q, by omega, h2⟩
theorem any_most (hI : IV v) : anyB v (a_n v) = decide (0 < m_v v nM) := by
  have e : anyB v (a_n v) = true ↔ 0 < m_v v nM := by
    rw [any_in, m_any hI]
    constructor
    · rintro ⟨q, h1, h2⟩
      rcases best_in v q with ⟨b1, _⟩ | ⟨j, hj, _, b2, _⟩
      · exact absurd b1 h2
      · exact ⟨q, j, h1, hj, b2⟩
    · rintro ⟨q, p, h1, h2, h3⟩
      refine ⟨q, h1, fun z => ?_⟩
      rcases best_in v q with ⟨_, b2⟩ | ⟨j, hj, b1, _, _⟩
      · exact b2 p h2 h3
      · rw [b1] at z; exact nM_ne (by omega) z
  by_cases g : 0 < m_v v nM
  · rw [decide_eq_true g]; exact e.mpr g
  · rw [decide_eq_false g]; exact Bool.eq_false_iff.mpr (fun z => g (e.mp z))
theorem h_63 (h : RelC S G x nw v hs nx sl tn tx) (hI : IV v) (hn : v 12 0 = nI n) (h8 : n ≤ 8) (hq : q < n) : ∃ S', lp (st_L_isAhead_63 (some x) (nI q)) (nI (m_v v nM), a_best v q, nI 1, nI 0, nI 0, S) = some (.inr (nI 1), S') ∧ RelC S' G x nw v hs nx sl tn tx := by
  obtain ⟨S', e1, h'⟩ := h_l130 h hI hn h8 hq
  refine ⟨S', ?_, h'⟩
  have m64 := m_v64 hI nM
  have am := any_most hI
  rw [an_e hn h8] at am
  generalize m_v v nM = m at e1 m64 am ⊢
  refine lpF n (fun i => (nI m, a_best v q, nI 1, (if anyB v i then nI 1 else nI 0), nI i, S)) _ rfl (fun i hi => ?_) ?_
  · show _ = some (Sum.inl (nI m, a_best v q, nI 1, (if (anyB v i || !decide (a_best v i = nM)) = true then nI 1 else nI 0), nI (i + 1), S))
    cases ha : anyB v i with
    | true =>
      simp (disch := omega) only [st_L_isAhead_63, h.rc.x4, g_cnt h, a_num, hn, z_0, z_1, z_2, z_3, z_4, z_5, z_6, z_7, z_8, z_9, z_10, z_12, z_13, z_15, z_17, z_20, z_25, z_31, z_33, z_41, z_49, z_57, z_60, z_72, z_100, z_161, z_255, z_256, z_999, z_9999, of_n, nI_add, pk_mul, n_le, n_lt, n_eq, n_cl, ck_n, ck_d, ck_tr, le_t, bd_t, ir_t, bt_r, bt_l, b_t, b_f, b_lt, b_lf, b_ef, z_m1, b_i0, b_i1, z_not, z_ps, f_mb, f_rf, ↓reduceIte, Nat.zero_add, Nat.add_zero, Nat.one_mul, Nat.mul_one, Nat.zero_mul, Nat.mul_zero, not_true_eq_false, not_false_eq_true, Bool.true_or]
    | false =>
      by_cases hb0 : a_best v i = nM
      · simp (disch := omega) only [st_L_isAhead_63, h.rc.x4, g_cnt h, a_num, hn, g_best h hI hn h8, hb0, z_0, z_1, z_2, z_3, z_4, z_5, z_6, z_7, z_8, z_9, z_10, z_12, z_13, z_15, z_17, z_20, z_25, z_31, z_33, z_41, z_49, z_57, z_60, z_72, z_100, z_161, z_255, z_256, z_999, z_9999, of_n, nI_add, pk_mul, n_le, n_lt, n_eq, n_cl, ck_n, ck_d, ck_tr, le_t, bd_t, ir_t, bt_r, bt_l, b_t, b_f, b_lt, b_lf, b_ef, z_m1, b_i0, b_i1, z_not, z_ps, f_mb, f_rf, ↓reduceIte, Nat.zero_add, Nat.add_zero, Nat.one_mul, Nat.mul_one, Nat.zero_mul, Nat.mul_zero, not_true_eq_false, not_false_eq_true, Bool.false_or, decide_true, Bool.not_true, Bool.false_eq_true]
      · simp (disch := omega) only [st_L_isAhead_63, h.rc.x4, g_cnt h, a_num, hn, g_best h hI hn h8, hb0, z_0, z_1, z_2, z_3, z_4, z_5, z_6, z_7, z_8, z_9, z_10, z_12, z_13, z_15, z_17, z_20, z_25, z_31, z_33, z_41, z_49, z_57, z_60, z_72, z_100, z_161, z_255, z_256, z_999, z_9999, of_n, nI_add, pk_mul, n_le, n_lt, n_eq, n_cl, ck_n, ck_d, ck_tr, le_t, bd_t, ir_t, bt_r, bt_l, b_t, b_f, b_lt, b_lf, b_ef, z_m1, b_i0, b_i1, z_not, z_ps, f_mb, f_rf, ↓reduceIte, Nat.zero_add, Nat.add_zero, Nat.one_mul, Nat.mul_one, Nat.zero_mul, Nat.mul_zero, not_true_eq_false, not_false_eq_true, Bool.false_or, decide_false, Bool.not_false, Bool.false_eq_true]
  · by_cases g : 0 < m
    · have am1 : anyB v n = true := am.trans (decide_eq_true g)
      simp (disch := omega) only [st_L_isAhead_63, j_L_isAhead_117, h.rc.x4, g_cnt h, a_num, hn, am1, e1, z_0, z_1, z_2, z_3, z_4, z_5, z_6, z_7, z_8, z_9, z_10, z_12, z_13, z_15, z_17, z_20, z_25, z_31, z_33, z_41, z_49, z_57, z_60, z_72, z_100, z_161, z_255, z_256, z_999, z_9999, of_n, nI_add, pk_mul, n_le, n_lt, n_eq, n_cl, ck_n, ck_d, ck_tr, le_t, bd_t, ir_t, bt_r, bt_l, b_t, b_f, b_lt, b_lf, b_ef, z_m1, b_i0, b_i1, z_not, z_ps, f_mb, f_rf, ↓reduceIte, Nat.zero_add, Nat.add_zero, Nat.one_mul, Nat.mul_one, Nat.zero_mul, Nat.mul_zero, not_true_eq_false, not_false_eq_true]
    · have am1 : anyB v n = false := am.trans (decide_eq_false g)
      have g0 : m = 0 := by omega
      subst g0
      simp (disch := omega) only [st_L_isAhead_63, j_L_isAhead_117, h.rc.x4, g_cnt h, a_num, hn, am1, Bool.false_eq_true, e1, z_0, z_1, z_2, z_3, z_4, z_5, z_6, z_7, z_8, z_9, z_10, z_12, z_13, z_15, z_17, z_20, z_25, z_31, z_33, z_41, z_49, z_57, z_60, z_72, z_100, z_161, z_255, z_256, z_999, z_9999, of_n, nI_add, pk_mul, n_le, n_lt, n_eq, n_cl, ck_n, ck_d, ck_tr, le_t, bd_t, ir_t, bt_r, bt_l, b_t, b_f, b_lt, b_lf, b_ef, z_m1, b_i0, b_i1, z_not, z_ps, f_mb, f_rf, ↓reduceIte, Nat.zero_add, Nat.add_zero, Nat.one_mul, Nat.mul_one, Nat.zero_mul, Nat.mul_zero, not_true_eq_false, not_false_eq_true]
/-- what is told ahead holds -/
theorem q_ahead (h : RelC S G x nw v hs nx sl tn tx) (hI : IV v) (hn : v 12 0 = nI n) (h8 : n ≤ 8) (hq : q < n) : ∃ S', m_L_isAhead (some x) (nI q) S = some (.inr (nI 1), S') ∧ RelC S' G x nw v hs nx sl tn tx := by
  obtain ⟨S1, e1, h1⟩ := g_most h hI (w := 0) (by omega)
  obtain ⟨S2, e2, h2⟩ := g_most h1 hI (w := 1) (by omega)
  obtain ⟨S', e3, h'⟩ := h_63 h2 hI hn h8 hq
  refine ⟨S', ?_, h'⟩
  have te := tokens_e hI
  have tl := m_tok hI
  have m64 := m_v64 hI nM
  have tb : sm (fun p => nv v 2 p - nv v 3 p) 8 ≤ 8 * 10099 := sm_le 8 (fun i hi => by have := (hI.go hi).2; omega)
  generalize sm (fun p => nv v 2 p - nv v 3 p) 8 = T at te tl tb
  generalize m_v v nM = m at e1 e2 e3 tl m64
  rcases best_in v q with ⟨b1, b2⟩ | ⟨j, hj, b1, b2, b3⟩
  · rw [b1] at e3
    simp (disch := omega) only [m_L_isAhead, h.rc.x4, h1.rc.x4, h2.rc.x4, e1, e2, g_best h1 hI hn h8 hq, g_cnt h2, a_num, te, b1, e3, z_0, z_1, z_2, z_3, z_4, z_5, z_6, z_7, z_8, z_9, z_10, z_12, z_13, z_15, z_17, z_20, z_25, z_31, z_33, z_41, z_49, z_57, z_60, z_72, z_100, z_161, z_255, z_256, z_999, z_9999, of_n, nI_add, pk_mul, n_le, n_lt, n_eq, n_cl, ck_n, ck_d, ck_tr, le_t, bd_t, ir_t, bt_r, bt_l, b_t, b_f, b_lt, b_lf, b_ef, z_m1, b_i0, b_i1, z_not, z_ps, f_mb, f_rf, ↓reduceIte, Nat.zero_add, Nat.add_zero, Nat.one_mul, Nat.mul_one, Nat.zero_mul, Nat.mul_zero, not_true_eq_false, not_false_eq_true]
  · rw [b1] at e3
    simp (disch := omega) only [m_L_isAhead, h.rc.x4, h1.rc.x4, h2.rc.x4, e1, e2, g_best h1 hI hn h8 hq, g_cnt h2, a_num, te, b1, nk_M, g_why h2 hI hn h8, b2, e3, z_0, z_1, z_2, z_3, z_4, z_5, z_6, z_7, z_8, z_9, z_10, z_12, z_13, z_15, z_17, z_20, z_25, z_31, z_33, z_41, z_49, z_57, z_60, z_72, z_100, z_161, z_255, z_256, z_999, z_9999, of_n, nI_add, pk_mul, n_le, n_lt, n_eq, n_cl, ck_n, ck_d, ck_tr, le_t, bd_t, ir_t, bt_r, bt_l, b_t, b_f, b_lt, b_lf, b_ef, z_m1, b_i0, b_i1, z_not, z_ps, f_mb, f_rf, ↓reduceIte, Nat.zero_add, Nat.add_zero, Nat.one_mul, Nat.mul_one, Nat.zero_mul, Nat.mul_zero, not_true_eq_false, not_false_eq_true]
end AH
