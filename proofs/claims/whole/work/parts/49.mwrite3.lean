/-! THE REFERENCE, WRITTEN: rebuttals -/
theorem lw_z (g : Nat → Int32) : (a_lw g 8).1 = nM ↔ a_wri g = nI 0 := by
  rw [wri_0]
  rcases lw_in g 8 (Nat.le_refl 8) with ⟨h1, h2⟩ | ⟨j, h1, h2, h3, h4, h5⟩
  · rw [h1]
    exact ⟨fun _ => cnt_0 (fun i hi => h2 i hi), fun _ => rfl⟩
  · rw [h2]
    constructor
    · intro z; exact absurd z (nM_ne (by omega))
    · intro z
      have := cnt_z z j h1
      unfold sc at this
      rw [h3] at this
      cases this
theorem cr_row (w : Int32) (v : AS) : ∀ i f, f ≠ 2 → f ≠ 14 → (a_cr w v i).2 f = v f
  | 0, _, _, _ => rfl
  | i + 1, f, h1, h2 => by
    have e : a_cr w v (i + 1) = (if hb w (nI i) then (if (a_cr w v i).2 14 0 ≤ nI 0 then a_cr w v i else ((a_cr w v i).1 + nI 1, a_give (a_cr w v i).2 i (nI 1))) else a_cr w v i) := rfl
    rw [e]
    repeat' split
    · exact cr_row w v i f h1 h2
    · show a_give (a_cr w v i).2 i (nI 1) f = v f
      unfold a_give
      rw [u_ne h1, u_ne h2]
      exact cr_row w v i f h1 h2
    · exact cr_row w v i f h1 h2
section MW
variable {S : PH} {G : Nat → Nat} {m n : Nat} {u : AS} {v : AS}
theorem o_credits (hg : Gi G) (h : RM S G m) (hn : n ≤ 8) (hc : cr (u 1) 0 n v) {q : Nat} (hq : q < n) : ∃ u', lp (st_X5_rebuts_111 (some m) (nI q)) (nI 0, nI 0, mput S G u) = some (nI 10 + (a_cr (a_wri (v (20 + q))) v 8).1, mput S G u') ∧ cr (u' 1) 0 n (a_cr (a_wri (v (20 + q))) v 8).2 ∧ s1 u u' := by
  obtain ⟨t', ⟨u1, rfl, h2, h3⟩, h4⟩ := lp_rel (step := st_X5_rebuts_111 (some m) (nI q)) (t := (nI 0, nI 0, mput S G u)) 8 (fun i t => ∃ u', t = ((a_cr (a_wri (v (20 + q))) v i).1, nI i, mput S G u') ∧ cr (u' 1) 0 n (a_cr (a_wri (v (20 + q))) v i).2 ∧ s1 u u') ⟨u, rfl, hc, s1.rf u⟩ (fun i hi t ht => by
    obtain ⟨u', rfl, k2, k3⟩ := ht
    have e : a_cr (a_wri (v (20 + q))) v (i + 1) = (if hb (a_wri (v (20 + q))) (nI i) then (if (a_cr (a_wri (v (20 + q))) v i).2 14 0 ≤ nI 0 then a_cr (a_wri (v (20 + q))) v i else ((a_cr (a_wri (v (20 + q))) v i).1 + nI 1, a_give (a_cr (a_wri (v (20 + q))) v i).2 i (nI 1))) else a_cr (a_wri (v (20 + q))) v i) := rfl
    rw [wri_hb _ hi] at e
    have hwr := o_isWritten (hM (u := u') h) (cI h k2) hn hi hq
    rw [cr_row _ _ _ _ (show 20 + q ≠ 2 by omega) (show 20 + q ≠ 14 by omega)] at hwr
    have e0 : u' 1 0 = (a_cr (a_wri (v (20 + q))) v i).2 14 0 := k2.i.2.2.1
    obtain ⟨u2, g1, g2, g3⟩ := o_gets hg h hn k2 hi (nI 1)
    by_cases h1 : isS (v (20 + q) i) = true
    · rw [if_pos h1] at e
      by_cases hle : (a_cr (a_wri (v (20 + q))) v i).2 14 0 ≤ nI 0
      · rw [if_pos hle] at e
        refine ⟨((a_cr (a_wri (v (20 + q))) v i).1, nI (i + 1), mput S G u'), ?_, u', by rw [e], by rw [e]; exact k2, k3⟩
        simp (disch := omega) only [st_X5_rebuts_111, dr_mp, N_mp, R_mp, rf_mp, mg_1 h, h.mm, h.s, h.ns, hwr, h1, e0, hle, z_0, z_1, z_2, z_3, z_4, z_5, z_6, z_7, z_8, z_9, z_10, z_12, z_13, z_15, z_17, z_20, z_25, z_31, z_33, z_41, z_49, z_57, z_60, z_72, z_100, z_161, z_255, z_256, z_999, z_9999, of_n, nI_add, pk_mul, n_le, n_lt, n_eq, n_cl, ck_n, ck_d, ck_tr, le_t, bd_t, ir_t, bt_r, bt_l, b_t, b_f, b_lt, b_lf, b_ef, z_m1, b_i0, b_i1, z_not, z_ps, f_mb, f_rf, ↓reduceIte, Nat.zero_add, Nat.add_zero, Nat.one_mul, Nat.mul_one, Nat.zero_mul, Nat.mul_zero, not_true_eq_false, not_false_eq_true]
      · rw [if_neg hle] at e
        refine ⟨((a_cr (a_wri (v (20 + q))) v i).1 + nI 1, nI (i + 1), mput S G u2), ?_, u2, by rw [e], by rw [e]; exact g2, k3.tr g3⟩
        simp (disch := omega) only [st_X5_rebuts_111, dr_mp, N_mp, R_mp, rf_mp, mg_1 h, h.mm, h.s, h.ns, hwr, h1, e0, hle, g1, z_0, z_1, z_2, z_3, z_4, z_5, z_6, z_7, z_8, z_9, z_10, z_12, z_13, z_15, z_17, z_20, z_25, z_31, z_33, z_41, z_49, z_57, z_60, z_72, z_100, z_161, z_255, z_256, z_999, z_9999, of_n, nI_add, pk_mul, n_le, n_lt, n_eq, n_cl, ck_n, ck_d, ck_tr, le_t, bd_t, ir_t, bt_r, bt_l, b_t, b_f, b_lt, b_lf, b_ef, z_m1, b_i0, b_i1, z_not, z_ps, f_mb, f_rf, ↓reduceIte, Nat.zero_add, Nat.add_zero, Nat.one_mul, Nat.mul_one, Nat.zero_mul, Nat.mul_zero, not_true_eq_false, not_false_eq_true]
    · rw [if_neg h1] at e
      refine ⟨((a_cr (a_wri (v (20 + q))) v i).1, nI (i + 1), mput S G u'), ?_, u', by rw [e], by rw [e]; exact k2, k3⟩
      simp (disch := omega) only [st_X5_rebuts_111, dr_mp, N_mp, R_mp, rf_mp, mg_1 h, h.mm, h.s, h.ns, hwr, h1, Bool.false_eq_true, z_0, z_1, z_2, z_3, z_4, z_5, z_6, z_7, z_8, z_9, z_10, z_12, z_13, z_15, z_17, z_20, z_25, z_31, z_33, z_41, z_49, z_57, z_60, z_72, z_100, z_161, z_255, z_256, z_999, z_9999, of_n, nI_add, pk_mul, n_le, n_lt, n_eq, n_cl, ck_n, ck_d, ck_tr, le_t, bd_t, ir_t, bt_r, bt_l, b_t, b_f, b_lt, b_lf, b_ef, z_m1, b_i0, b_i1, z_not, z_ps, f_mb, f_rf, ↓reduceIte, Nat.zero_add, Nat.add_zero, Nat.one_mul, Nat.mul_one, Nat.zero_mul, Nat.mul_zero, not_true_eq_false, not_false_eq_true])
  refine ⟨u1, ?_, h2, h3⟩
  rw [h4]
  refine lp_inr ?_
  simp (disch := omega) only [st_X5_rebuts_111, z_0, z_1, z_2, z_3, z_4, z_5, z_6, z_7, z_8, z_9, z_10, z_12, z_13, z_15, z_17, z_20, z_25, z_31, z_33, z_41, z_49, z_57, z_60, z_72, z_100, z_161, z_255, z_256, z_999, z_9999, of_n, nI_add, pk_mul, n_le, n_lt, n_eq, n_cl, ck_n, ck_d, ck_tr, le_t, bd_t, ir_t, bt_r, bt_l, b_t, b_f, b_lt, b_lf, b_ef, z_m1, b_i0, b_i1, z_not, z_ps, f_mb, f_rf, ↓reduceIte, Nat.zero_add, Nat.add_zero, Nat.one_mul, Nat.mul_one, Nat.zero_mul, Nat.mul_zero, not_true_eq_false, not_false_eq_true]
theorem o_rebuts (hg : Gi G) (h : RM S G m) (hn : n ≤ 8) (hI : IV v) (hc : cr (u 1) 0 n v) {q : Nat} (hq : q < n) : ∃ u', m_X5_rebuts (some m) (nI q) (mput S G u) = some ((a_reb v q).1, mput S G u') ∧ cr (u' 1) 0 n (a_reb v q).2 ∧ s1 u u' := by
  have hq8 : q < 8 := by omega
  have hlow := o_lowest (hM (u := u) h) (cI h hc) hn hq
  have ho4 := o_of (hM (u := u) h) hq8 (show 4 < 13 by omega)
  have ho3 := o_of (hM (u := u) h) hq8 (show 3 < 13 by omega)
  rw [rf_mp, mg_1 h, hc.q4 hq] at ho4
  rw [rf_mp, mg_1 h, hc.q3 hq] at ho3
  have hd := hI.de hq8
  have hr := hI.rb hq8
  have hz := lw_z (v (20 + q))
  -- the reason, as the reference tells it
  have key : m_X5_rebuts (some m) (nI q) (mput S G u) = j_X5_rebuts_43 (some m) (nI q) (a_lw (v (20 + q)) 8).1 (a_wr v q) (mput S G u) := by
    rcases Nat.eq_zero_or_pos (nv v 9 q) with g | g
    · have hd0 : v 9 q = nI 0 := by rw [hd.1, g]
      rw [hd0] at ho4
      by_cases hw : a_wri (v (20 + q)) = nI 0
      · have hl := hz.mpr hw
        simp (disch := omega) only [m_X5_rebuts, dr_mp, h.mm, hlow, ho4, hl, z_0, z_1, z_2, z_3, z_4, z_5, z_6, z_7, z_8, z_9, z_10, z_12, z_13, z_15, z_17, z_20, z_25, z_31, z_33, z_41, z_49, z_57, z_60, z_72, z_100, z_161, z_255, z_256, z_999, z_9999, of_n, nI_add, pk_mul, n_le, n_lt, n_eq, n_cl, ck_n, ck_d, ck_tr, le_t, bd_t, ir_t, bt_r, bt_l, b_t, b_f, b_lt, b_lf, b_ef, z_m1, b_i0, b_i1, z_not, z_ps, f_mb, f_rf, ↓reduceIte, Nat.zero_add, Nat.add_zero, Nat.one_mul, Nat.mul_one, Nat.zero_mul, Nat.mul_zero, not_true_eq_false, not_false_eq_true, a_wr, hd0, hw]
      · have hl : ¬ (a_lw (v (20 + q)) 8).1 = nM := fun z => hw (hz.mp z)
        rcases Nat.eq_zero_or_pos (nv v 8 q) with g2 | g2
        · have hr0 : v 8 q = nI 0 := by rw [hr.1, g2]
          rw [hr0] at ho3
          simp (disch := omega) only [m_X5_rebuts, dr_mp, h.mm, hlow, ho4, ho3, hl, z_0, z_1, z_2, z_3, z_4, z_5, z_6, z_7, z_8, z_9, z_10, z_12, z_13, z_15, z_17, z_20, z_25, z_31, z_33, z_41, z_49, z_57, z_60, z_72, z_100, z_161, z_255, z_256, z_999, z_9999, of_n, nI_add, pk_mul, n_le, n_lt, n_eq, n_cl, ck_n, ck_d, ck_tr, le_t, bd_t, ir_t, bt_r, bt_l, b_t, b_f, b_lt, b_lf, b_ef, z_m1, b_i0, b_i1, z_not, z_ps, f_mb, f_rf, ↓reduceIte, Nat.zero_add, Nat.add_zero, Nat.one_mul, Nat.mul_one, Nat.zero_mul, Nat.mul_zero, not_true_eq_false, not_false_eq_true, a_wr, hd0, hw, hr0]
        · have hr1 : v 8 q = nI 1 := by rw [hr.1, show nv v 8 q = 1 by omega]
          rw [hr1] at ho3
          simp (disch := omega) only [m_X5_rebuts, dr_mp, h.mm, hlow, ho4, ho3, hl, z_0, z_1, z_2, z_3, z_4, z_5, z_6, z_7, z_8, z_9, z_10, z_12, z_13, z_15, z_17, z_20, z_25, z_31, z_33, z_41, z_49, z_57, z_60, z_72, z_100, z_161, z_255, z_256, z_999, z_9999, of_n, nI_add, pk_mul, n_le, n_lt, n_eq, n_cl, ck_n, ck_d, ck_tr, le_t, bd_t, ir_t, bt_r, bt_l, b_t, b_f, b_lt, b_lf, b_ef, z_m1, b_i0, b_i1, z_not, z_ps, f_mb, f_rf, ↓reduceIte, Nat.zero_add, Nat.add_zero, Nat.one_mul, Nat.mul_one, Nat.zero_mul, Nat.mul_zero, not_true_eq_false, not_false_eq_true, a_wr, hd0, hw, hr1]
    · have hd0 : ¬ v 9 q = nI 0 := by
        rw [hd.1, nI_eq (by omega) (by omega)]
        omega
      have hdl : ¬ v 9 q ≤ nI 0 := by
        rw [hd.1, nI_leI (by omega) (by omega)]
        omega
      simp (disch := omega) only [m_X5_rebuts, dr_mp, h.mm, hlow, ho4, hdl, z_0, z_1, z_2, z_3, z_4, z_5, z_6, z_7, z_8, z_9, z_10, z_12, z_13, z_15, z_17, z_20, z_25, z_31, z_33, z_41, z_49, z_57, z_60, z_72, z_100, z_161, z_255, z_256, z_999, z_9999, of_n, nI_add, pk_mul, n_le, n_lt, n_eq, n_cl, ck_n, ck_d, ck_tr, le_t, bd_t, ir_t, bt_r, bt_l, b_t, b_f, b_lt, b_lf, b_ef, z_m1, b_i0, b_i1, z_not, z_ps, f_mb, f_rf, ↓reduceIte, Nat.zero_add, Nat.add_zero, Nat.one_mul, Nat.mul_one, Nat.zero_mul, Nat.mul_zero, not_true_eq_false, not_false_eq_true, a_wr, hd0]
  rw [key]
  by_cases hw : a_wr v q = nI 0
  · have hlz : ¬ a_wri (v (20 + q)) = nI 0 := by
      intro z
      unfold a_wr at hw
      rw [if_pos z] at hw
      split at hw <;> (revert hw; decide)
    rcases lw_in (v (20 + q)) 8 (Nat.le_refl 8) with ⟨h1, h2⟩ | ⟨j, h1, h2, h3, h4, h5⟩
    · exact absurd (hz.mp (by rw [h1])) hlz
    · have hne : ¬ nI j = nM := nM_ne (by omega)
      have hsc := o_score (hM (u := u) h) (cI h hc) hn h1 hq
      have e7 : u 1 7 = v 11 3 := hc.c3
      -- the new score
      let x : Int32 := if v (20 + q) j + v 11 3 ≤ nI 9 then v (20 + q) j + v 11 3 else nI 9
      have hx : x = mmin (nI 9) (v (20 + q) j + v 11 3) := by
        show (if _ then _ else _) = _
        unfold mmin
        by_cases z : v (20 + q) j + v 11 3 < nI 9
        · rw [if_pos z, if_pos (Int32.le_of_lt z)]
        · rw [if_neg z]
          split
          · rename_i z2
            exact Int32.le_antisymm z2 (Int32.not_lt.mp z)
          · rfl
      have hrl : a_rl (v (20 + q)) (v 11 3) = up1 (v (20 + q)) j x := by
        unfold a_rl
        rw [h2, hx]
        simp (disch := omega) only [hne, ↓reduceIte, n_cl]
      have hrv : a_rv v q = u_2 (u_2 v (20 + q) j x) 8 q (nI 1) := by
        unfold a_rv
        rw [hrl, ← u2_ur]
      have c1 := cr_s hn hc h1 hq x
      have c2 := cr_q hn c1 (show 5 ≤ 8 by omega) (show 8 < 10 by omega) hq (nI 1)
      rw [← hrv] at c2
      obtain ⟨u2, g1, g2, g3⟩ := o_credits hg h hn c2 hq
      refine ⟨u2, ?_, ?_, ((((s1.rf u).set (by omega)).set (by omega)).tr g3)⟩
      · rw [hw, h2]
        by_cases hle : v (20 + q) j + v 11 3 ≤ nI 9
        · have ex : x = v (20 + q) j + v 11 3 := if_pos hle
          rw [ex] at g1
          simp (disch := omega) only [j_X5_rebuts_43, j_X5_rebuts_95, dr_mp, N_mp, R_mp, rf_mp, mg_1 h, h.mm, h.s, h.ns, hsc, e7, hle, o_lay hg h, g1, z_0, z_1, z_2, z_3, z_4, z_5, z_6, z_7, z_8, z_9, z_10, z_12, z_13, z_15, z_17, z_20, z_25, z_31, z_33, z_41, z_49, z_57, z_60, z_72, z_100, z_161, z_255, z_256, z_999, z_9999, of_n, nI_add, pk_mul, n_le, n_lt, n_eq, n_cl, ck_n, ck_d, ck_tr, le_t, bd_t, ir_t, bt_r, bt_l, b_t, b_f, b_lt, b_lf, b_ef, z_m1, b_i0, b_i1, z_not, z_ps, f_mb, f_rf, ↓reduceIte, Nat.zero_add, Nat.add_zero, Nat.one_mul, Nat.mul_one, Nat.zero_mul, Nat.mul_zero, not_true_eq_false, not_false_eq_true, a_reb, hw]
        · have ex : x = nI 9 := if_neg hle
          rw [ex] at g1
          simp (disch := omega) only [j_X5_rebuts_43, j_X5_rebuts_95, dr_mp, N_mp, R_mp, rf_mp, mg_1 h, h.mm, h.s, h.ns, hsc, e7, hle, o_lay hg h, g1, z_0, z_1, z_2, z_3, z_4, z_5, z_6, z_7, z_8, z_9, z_10, z_12, z_13, z_15, z_17, z_20, z_25, z_31, z_33, z_41, z_49, z_57, z_60, z_72, z_100, z_161, z_255, z_256, z_999, z_9999, of_n, nI_add, pk_mul, n_le, n_lt, n_eq, n_cl, ck_n, ck_d, ck_tr, le_t, bd_t, ir_t, bt_r, bt_l, b_t, b_f, b_lt, b_lf, b_ef, z_m1, b_i0, b_i1, z_not, z_ps, f_mb, f_rf, ↓reduceIte, Nat.zero_add, Nat.add_zero, Nat.one_mul, Nat.mul_one, Nat.zero_mul, Nat.mul_zero, not_true_eq_false, not_false_eq_true, a_reb, hw]
      · simp only [a_reb, hw, ↓reduceIte]
        exact g2
  · obtain ⟨h1, h2⟩ := o_refuse hg h hn hc
    refine ⟨_, ?_, by simp only [a_reb, hw, ↓reduceIte]; exact h1, h2⟩
    have hle : ¬ a_wr v q ≤ nI 0 := pos_of (by
      unfold a_wr
      repeat' split
      all_goals decide) hw
    simp (disch := omega) only [j_X5_rebuts_43, dr_mp, N_mp, R_mp, rf_mp, mg_1 h, ms_1 hg h, h.mm, h.s, h.ns, hle, z_0, z_1, z_2, z_3, z_4, z_5, z_6, z_7, z_8, z_9, z_10, z_12, z_13, z_15, z_17, z_20, z_25, z_31, z_33, z_41, z_49, z_57, z_60, z_72, z_100, z_161, z_255, z_256, z_999, z_9999, of_n, nI_add, pk_mul, n_le, n_lt, n_eq, n_cl, ck_n, ck_d, ck_tr, le_t, bd_t, ir_t, bt_r, bt_l, b_t, b_f, b_lt, b_lf, b_ef, z_m1, b_i0, b_i1, z_not, z_ps, f_mb, f_rf, ↓reduceIte, Nat.zero_add, Nat.add_zero, Nat.one_mul, Nat.mul_one, Nat.zero_mul, Nat.mul_zero, not_true_eq_false, not_false_eq_true, a_reb, hw]
end MW
