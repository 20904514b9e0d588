/-! THE REFERENCE, WRITTEN: weeks, discussions, rebuttals -/
theorem ur_id {w : AS} {f : Nat} : u_r w f (w f) = w := by
  funext a
  unfold u_r
  by_cases e : a = f
  · rw [if_pos e, e]
  · rw [if_neg e]
theorem ur_u {w : AS} {f k : Nat} {g : Nat → Int32} {x : Int32} : u_2 (u_r w f g) f k x = u_r w f (up1 g k x) := by
  funext a b
  show (if a = f ∧ b = k then x else (if a = f then g else w a) b) = (if a = f then up1 g k x else w a) b
  by_cases e : a = f
  · rw [if_pos e, if_pos e]
    unfold up1
    simp only [e, true_and]
  · rw [if_neg e, if_neg e, if_neg (fun z => e z.1)]
theorem ur_v {w : AS} {f h k : Nat} {g : Nat → Int32} {x : Int32} (hne : h ≠ f) : u_2 (u_r w f g) h k x = u_r (u_2 w h k x) f g := by
  funext a b
  show (if a = h ∧ b = k then x else (if a = f then g else w a) b) = (if a = f then g else (u_2 w h k x) a) b
  by_cases e : a = f
  · rw [if_pos e, if_pos e, if_neg (fun z => hne (z.1.symm.trans e))]
  · rw [if_neg e, if_neg e]
    rfl
theorem u2_ur {w : AS} {f k : Nat} {x : Int32} : u_2 w f k x = u_r w f (up1 (w f) k x) := by
  have h := ur_u (w := w) (f := f) (k := k) (g := w f) (x := x)
  rwa [ur_id] at h
theorem ur_ne {w : AS} {f a : Nat} {g : Nat → Int32} (h : a ≠ f) : u_r w f g a = w a := by unfold u_r; exact if_neg h
theorem ur_s {w : AS} {f : Nat} {g : Nat → Int32} : u_r w f g f = g := by unfold u_r; exact if_pos rfl
theorem wk_11 (v : AS) : ∀ i f, f ≠ 2 → f ≠ 14 → (a_wk v i).2 f = v f
  | 0, _, _, _ => rfl
  | i + 1, f, h1, h2 => by
    have e : a_wk v (i + 1) = (if (a_wk v i).2 14 0 < v 11 2 then a_wk v i else ((a_wk v i).1 + v 11 2, a_give (a_wk v i).2 i (v 11 2))) := rfl
    rw [e]
    split
    · exact wk_11 v i f h1 h2
    · show a_give (a_wk v i).2 i (v 11 2) f = v f
      unfold a_give
      rw [u_ne h1, u_ne h2]
      exact wk_11 v i f h1 h2
theorem sc_no : ∀ k, k < 11 → nI k - nI 1 ≠ nI k ∧ nI k + nI 1 ≠ nI k ∧ nI k - nI 1 = nI k + nM := by decide
section MW
variable {S : PH} {G : Nat → Nat} {m n : Nat} {u : AS} {v : AS}
theorem o_week (hg : Gi G) (h : RM S G m) (hn : n ≤ 8) (hc : cr (u 1) 0 n v) : ∃ u', m_X5_weekGoes (some m) (mput S G u) = some ((a_week v).1, mput S G u') ∧ cr (u' 1) 0 n (a_week v).2 ∧ s1 u u' := by
  obtain ⟨t', ⟨u1, rfl, h2, h3⟩, h4⟩ := lp_rel (step := st_X5_weekGoes_4 (some m)) (t := (nI 0, nI 0, mput S G u)) 8 (fun i t => ∃ u', t = ((a_wk v i).1, nI i, mput S G u') ∧ cr (u' 1) 0 n (a_wk v i).2 ∧ s1 u u') ⟨u, rfl, hc, s1.rf u⟩ (fun i hi t ht => by
    obtain ⟨u', rfl, k2, k3⟩ := ht
    have e : a_wk v (i + 1) = (if (a_wk v i).2 14 0 < v 11 2 then a_wk v i else ((a_wk v i).1 + v 11 2, a_give (a_wk v i).2 i (v 11 2))) := rfl
    have e6 : u' 1 6 = v 11 2 := by rw [k2.c2, wk_11 v i 11 (by omega) (by omega)]
    have e0 : u' 1 0 = (a_wk v i).2 14 0 := k2.i.2.2.1
    obtain ⟨u2, g1, g2, g3⟩ := o_gets hg h hn k2 hi (v 11 2)
    have e62 : u2 1 6 = v 11 2 := by
      rw [g2.c2]
      unfold a_give
      rw [u_ne (by omega), u_ne (by omega), wk_11 v i 11 (by omega) (by omega)]
    by_cases hlt : (a_wk v i).2 14 0 < v 11 2
    · refine ⟨((a_wk v i).1, nI (i + 1), mput S G u'), ?_, u', ?_, ?_, k3⟩
      · simp (disch := omega) only [st_X5_weekGoes_4, dr_mp, N_mp, R_mp, rf_mp, mg_1 h, h.mm, h.s, h.ns, e6, e0, hlt, z_0, z_1, z_2, z_3, z_4, z_5, z_6, z_7, z_8, z_9, z_10, z_12, z_13, z_15, z_17, z_20, z_25, z_31, z_33, z_41, z_49, z_57, z_60, z_72, z_100, z_161, z_255, z_256, z_999, z_9999, of_n, nI_add, pk_mul, n_le, n_lt, n_eq, n_cl, ck_n, ck_d, ck_tr, le_t, bd_t, ir_t, bt_r, bt_l, b_t, b_f, b_lt, b_lf, b_ef, z_m1, b_i0, b_i1, z_not, z_ps, f_mb, f_rf, ↓reduceIte, Nat.zero_add, Nat.add_zero, Nat.one_mul, Nat.mul_one, Nat.zero_mul, Nat.mul_zero, not_true_eq_false, not_false_eq_true]
      · rw [e, if_pos hlt]
      · rw [e, if_pos hlt]; exact k2
    · refine ⟨((a_wk v i).1 + v 11 2, nI (i + 1), mput S G u2), ?_, u2, ?_, ?_, k3.tr g3⟩
      · simp (disch := omega) only [st_X5_weekGoes_4, dr_mp, N_mp, R_mp, rf_mp, mg_1 h, h.mm, h.s, h.ns, e6, e0, hlt, g1, e62, z_0, z_1, z_2, z_3, z_4, z_5, z_6, z_7, z_8, z_9, z_10, z_12, z_13, z_15, z_17, z_20, z_25, z_31, z_33, z_41, z_49, z_57, z_60, z_72, z_100, z_161, z_255, z_256, z_999, z_9999, of_n, nI_add, pk_mul, n_le, n_lt, n_eq, n_cl, ck_n, ck_d, ck_tr, le_t, bd_t, ir_t, bt_r, bt_l, b_t, b_f, b_lt, b_lf, b_ef, z_m1, b_i0, b_i1, z_not, z_ps, f_mb, f_rf, ↓reduceIte, Nat.zero_add, Nat.add_zero, Nat.one_mul, Nat.mul_one, Nat.zero_mul, Nat.mul_zero, not_true_eq_false, not_false_eq_true]
      · rw [e, if_neg hlt]
      · rw [e, if_neg hlt]; exact g2)
  have e1 : u1 1 1 = (a_wk v 8).2 13 0 := h2.i.2.1
  refine ⟨u_2 u1 1 1 (u1 1 1 + nI 1), ?_, ?_, h3.set (by omega)⟩
  · unfold m_X5_weekGoes
    rw [show ((0 : Int32), (0 : Int32), mput S G u) = (nI 0, nI 0, mput S G u) from rfl, h4]
    refine lp_inr ?_
    simp (disch := omega) only [st_X5_weekGoes_4, dr_mp, N_mp, R_mp, rf_mp, mg_1 h, ms_1 hg h, h.mm, h.s, h.ns, z_0, z_1, z_2, z_3, z_4, z_5, z_6, z_7, z_8, z_9, z_10, z_12, z_13, z_15, z_17, z_20, z_25, z_31, z_33, z_41, z_49, z_57, z_60, z_72, z_100, z_161, z_255, z_256, z_999, z_9999, of_n, nI_add, pk_mul, n_le, n_lt, n_eq, n_cl, ck_n, ck_d, ck_tr, le_t, bd_t, ir_t, bt_r, bt_l, b_t, b_f, b_lt, b_lf, b_ef, z_m1, b_i0, b_i1, z_not, z_ps, f_mb, f_rf, ↓reduceIte, Nat.zero_add, Nat.add_zero, Nat.one_mul, Nat.mul_one, Nat.zero_mul, Nat.mul_zero, not_true_eq_false, not_false_eq_true, a_week]
  · rw [e1]
    exact (cr_i hn h2 ((a_wk v 8).2 13 0 + nI 1)).2.1
theorem pay_ne (w : Int32) (v : AS) : ∀ i f, f ≠ 3 → a_pay w v i f = v f
  | 0, _, _ => rfl
  | i + 1, f, h => by
    have e : a_pay w v (i + 1) = (if hb w (nI i) then u_2 (a_pay w v i) 3 i (a_pay w v i 3 i + nI 1) else a_pay w v i) := rfl
    rw [e]
    split
    · rw [u_ne h]; exact pay_ne w v i f h
    · exact pay_ne w v i f h
theorem pos_of {x : Int32} (h : x = nI 0 ∨ x = nI 1 ∨ x = nI 2 ∨ x = nI 3 ∨ x = nI 4 ∨ x = nI 5 ∨ x = nI 6) (hne : ¬ x = nI 0) : ¬ x ≤ nI 0 := by
  rcases h with h | h | h | h | h | h | h
  · exact absurd h hne
  all_goals rw [h]; decide
theorem o_discusses (hg : Gi G) (h : RM S G m) (hn : n ≤ 8) (hI : IV v) (hc : cr (u 1) 0 n v) {q : Nat} (hq : q < n) : ∃ u', m_X5_discusses (some m) (nI q) (mput S G u) = some ((a_disc v q).1, mput S G u') ∧ cr (u' 1) 0 n (a_disc v q).2 ∧ s1 u u' := by
  have hq8 : q < 8 := by omega
  have hwhy := o_whyD (hM (u := u) h) (cI h hc) hn hI hq
  by_cases hw : a_wd v q = nI 0
  · have hbc : ¬ a_bc (a_wri (v (20 + q))) = nI 0 := by
      intro z
      unfold a_wd at hw
      split at hw
      · rw [z] at hw
        rw [if_neg (by decide)] at hw
        revert hw; decide
      · revert hw; decide
    have hs := o_sum (hM (u := u) h) (cI h hc) hn hq
    have hwr := o_wri (hM (u := u) h) (cI h hc) hn hq
    let mean : Int32 := a_sum (v (20 + q)) / a_bc (a_wri (v (20 + q)))
    let V : Nat → AS := fun i => u_r (a_pay (a_wri (v (20 + q))) v i) (20 + q) (fun k => if k < i then a_mv mean (v (20 + q) k) else v (20 + q) k)
    let C : Nat → Int32 := fun i => fo (fun i n => if isS (v (20 + q) i) then (if v (20 + q) i = mean then n else n + nI 1) else n) i (nI 0)
    have V0 : V 0 = v := by
      show u_r v (20 + q) (fun k => if k < 0 then a_mv mean (v (20 + q) k) else v (20 + q) k) = v
      have e : (fun k => if k < 0 then a_mv mean (v (20 + q) k) else v (20 + q) k) = v (20 + q) := by funext k; rw [if_neg (by omega)]
      rw [e, ur_id]
    obtain ⟨t', ⟨u1, rfl, h2, h3⟩, h4⟩ := lp_rel (step := st_X5_discusses_44 (some m) (nI q)) (t := (mean, nI 0, nI 0, mput S G u)) 8 (fun i t => ∃ u', t = (mean, C i, nI i, mput S G u') ∧ cr (u' 1) 0 n (V i) ∧ s1 u u') ⟨u, rfl, by rw [V0]; exact hc, s1.rf u⟩ (fun i hi t ht => by
      obtain ⟨u', rfl, k2, k3⟩ := ht
      have eV : V i (20 + q) i = v (20 + q) i := by
        show u_r _ (20 + q) _ (20 + q) i = _
        rw [ur_s]
        exact if_neg (by omega)
      have hwr2 := o_isWritten (hM (u := u') h) (cI h k2) hn hi hq
      have hsc2 := o_score (hM (u := u') h) (cI h k2) hn hi hq
      rw [eV] at hwr2 hsc2
      have eC : C (i + 1) = (if isS (v (20 + q) i) then (if v (20 + q) i = mean then C i else C i + nI 1) else C i) := rfl
      have eP : a_pay (a_wri (v (20 + q))) v (i + 1) = (if hb (a_wri (v (20 + q))) (nI i) then u_2 (a_pay (a_wri (v (20 + q))) v i) 3 i (a_pay (a_wri (v (20 + q))) v i 3 i + nI 1) else a_pay (a_wri (v (20 + q))) v i) := rfl
      rw [wri_hb _ hi] at eP
      by_cases h1 : isS (v (20 + q) i) = true
      · rw [if_pos h1] at eC eP
        obtain ⟨u2, g1, g2, g3⟩ := o_pays hg h hn k2 hi (nI 1)
        have g4 := cr_s hn g2 hi hq (a_mv mean (v (20 + q) i))
        have eV1 : u_2 (u_2 (V i) 3 i (V i 3 i + nI 1)) (20 + q) i (a_mv mean (v (20 + q) i)) = V (i + 1) := by
          show u_2 (u_2 (u_r _ (20 + q) _) 3 i (u_r _ (20 + q) _ 3 i + nI 1)) (20 + q) i _ = u_r _ (20 + q) _
          rw [ur_ne (show 3 ≠ 20 + q by omega), ur_v (show 3 ≠ 20 + q by omega), ur_u, eP, mv_up (f := fun k => a_mv mean (v (20 + q) k))]
        rw [eV1] at g4
        obtain ⟨k, hk, hk2⟩ : ∃ k, k < 11 ∧ v (20 + q) i = nI k := by
          rcases hI.sc hq8 hi with z | ⟨z1, z2⟩
          · rw [z, isS_nM] at h1; cases h1
          · exact ⟨_, Nat.lt_succ_of_le z2, z1⟩
        obtain ⟨d1, d2, d3⟩ := sc_no k hk
        rw [← hk2] at d1 d2 d3
        refine ⟨(mean, C (i + 1), nI (i + 1), mput S G (u_2 u2 1 (57 + 13 * q + (5 + i)) (a_mv mean (v (20 + q) i)))), ?_, _, rfl, g4, (k3.tr g3).set (by omega)⟩
        by_cases e1 : v (20 + q) i = mean
        · have em : a_mv mean (v (20 + q) i) = v (20 + q) i := by unfold a_mv; rw [if_pos h1, if_pos e1]
          rw [if_pos e1] at eC
          have l1 : mean ≤ v (20 + q) i := by rw [e1]; exact Int32.le_refl _
          have l2 : v (20 + q) i ≤ mean := by rw [e1]; exact Int32.le_refl _
          rw [em, eC]
          simp (disch := omega) only [st_X5_discusses_44, j_X5_discusses_98, dr_mp, h.mm, hwr2, hsc2, h1, l1, l2, g1, o_lay hg h, add_0, z_0, z_1, z_2, z_3, z_4, z_5, z_6, z_7, z_8, z_9, z_10, z_12, z_13, z_15, z_17, z_20, z_25, z_31, z_33, z_41, z_49, z_57, z_60, z_72, z_100, z_161, z_255, z_256, z_999, z_9999, of_n, nI_add, pk_mul, n_le, n_lt, n_eq, n_cl, ck_n, ck_d, ck_tr, le_t, bd_t, ir_t, bt_r, bt_l, b_t, b_f, b_lt, b_lf, b_ef, z_m1, b_i0, b_i1, z_not, z_ps, f_mb, f_rf, ↓reduceIte, Nat.zero_add, Nat.add_zero, Nat.one_mul, Nat.mul_one, Nat.zero_mul, Nat.mul_zero, not_true_eq_false, not_false_eq_true]
        · rw [if_neg e1] at eC
          by_cases e2 : mean ≤ v (20 + q) i
          · have em : a_mv mean (v (20 + q) i) = v (20 + q) i - nI 1 := by unfold a_mv; rw [if_pos h1, if_neg e1, if_pos e2, d3]
            have l2 : ¬ v (20 + q) i ≤ mean := fun z => e1 (Int32.le_antisymm z e2)
            rw [em, eC]
            simp (disch := omega) only [st_X5_discusses_44, j_X5_discusses_98, dr_mp, h.mm, hwr2, hsc2, h1, e2, l2, g1, o_lay hg h, d1, z_0, z_1, z_2, z_3, z_4, z_5, z_6, z_7, z_8, z_9, z_10, z_12, z_13, z_15, z_17, z_20, z_25, z_31, z_33, z_41, z_49, z_57, z_60, z_72, z_100, z_161, z_255, z_256, z_999, z_9999, of_n, nI_add, pk_mul, n_le, n_lt, n_eq, n_cl, ck_n, ck_d, ck_tr, le_t, bd_t, ir_t, bt_r, bt_l, b_t, b_f, b_lt, b_lf, b_ef, z_m1, b_i0, b_i1, z_not, z_ps, f_mb, f_rf, ↓reduceIte, Nat.zero_add, Nat.add_zero, Nat.one_mul, Nat.mul_one, Nat.zero_mul, Nat.mul_zero, not_true_eq_false, not_false_eq_true]
          · have em : a_mv mean (v (20 + q) i) = v (20 + q) i + nI 1 := by unfold a_mv; rw [if_pos h1, if_neg e1, if_neg e2]
            rw [em, eC]
            simp (disch := omega) only [st_X5_discusses_44, j_X5_discusses_98, dr_mp, h.mm, hwr2, hsc2, h1, e2, g1, o_lay hg h, d2, z_0, z_1, z_2, z_3, z_4, z_5, z_6, z_7, z_8, z_9, z_10, z_12, z_13, z_15, z_17, z_20, z_25, z_31, z_33, z_41, z_49, z_57, z_60, z_72, z_100, z_161, z_255, z_256, z_999, z_9999, of_n, nI_add, pk_mul, n_le, n_lt, n_eq, n_cl, ck_n, ck_d, ck_tr, le_t, bd_t, ir_t, bt_r, bt_l, b_t, b_f, b_lt, b_lf, b_ef, z_m1, b_i0, b_i1, z_not, z_ps, f_mb, f_rf, ↓reduceIte, Nat.zero_add, Nat.add_zero, Nat.one_mul, Nat.mul_one, Nat.zero_mul, Nat.mul_zero, not_true_eq_false, not_false_eq_true]
      · rw [if_neg h1] at eC eP
        have eV1 : V (i + 1) = V i := by
          show u_r _ (20 + q) _ = u_r _ (20 + q) _
          rw [eP, mv_id (f := fun k => a_mv mean (v (20 + q) k)) (g := v (20 + q)) (by unfold a_mv; rw [if_neg h1])]
        refine ⟨(mean, C (i + 1), nI (i + 1), mput S G u'), ?_, u', rfl, by rw [eV1]; exact k2, k3⟩
        rw [eC]
        simp (disch := omega) only [st_X5_discusses_44, dr_mp, h.mm, hwr2, h1, Bool.false_eq_true, z_0, z_1, z_2, z_3, z_4, z_5, z_6, z_7, z_8, z_9, z_10, z_12, z_13, z_15, z_17, z_20, z_25, z_31, z_33, z_41, z_49, z_57, z_60, z_72, z_100, z_161, z_255, z_256, z_999, z_9999, of_n, nI_add, pk_mul, n_le, n_lt, n_eq, n_cl, ck_n, ck_d, ck_tr, le_t, bd_t, ir_t, bt_r, bt_l, b_t, b_f, b_lt, b_lf, b_ef, z_m1, b_i0, b_i1, z_not, z_ps, f_mb, f_rf, ↓reduceIte, Nat.zero_add, Nat.add_zero, Nat.one_mul, Nat.mul_one, Nat.zero_mul, Nat.mul_zero, not_true_eq_false, not_false_eq_true])
    have et : u1 1 (57 + 13 * q + 2) = V 8 7 q := h2.q2 hq
    have eV7 : V 8 7 q = a_pay (a_wri (v (20 + q))) v 8 7 q := by
      show u_r _ (20 + q) _ 7 q = _
      rw [ur_ne (show 7 ≠ 20 + q by omega)]
    have hdv : a_dv v q (20 + q) = v (20 + q) := by
      show u_2 _ 7 q _ (20 + q) = _
      rw [u_ne (show 20 + q ≠ 7 by omega), pay_ne _ _ _ _ (show 20 + q ≠ 3 by omega)]
    refine ⟨u_2 u1 1 (57 + 13 * q + 2) (V 8 7 q + nI 1), ?_, ?_, h3.set (by omega)⟩
    · have hbn : a_bnn (v (20 + q)) = C 8 := by unfold a_bnn; rw [if_neg hbc]
      have fin : lp (st_X5_discusses_44 (some m) (nI q)) (mean, nI 0, nI 0, mput S G u) = some (nI 10 + C 8, mput S G (u_2 u1 1 (57 + 13 * q + 2) (V 8 7 q + nI 1))) := by
        rw [h4]
        refine lp_inr ?_
        have ho := o_of (hM (u := u1) h) hq8 (show 2 < 13 by omega)
        rw [rf_mp, mg_1 h, et] at ho
        simp (disch := omega) only [st_X5_discusses_44, dr_mp, h.mm, ho, o_lay hg h, z_0, z_1, z_2, z_3, z_4, z_5, z_6, z_7, z_8, z_9, z_10, z_12, z_13, z_15, z_17, z_20, z_25, z_31, z_33, z_41, z_49, z_57, z_60, z_72, z_100, z_161, z_255, z_256, z_999, z_9999, of_n, nI_add, pk_mul, n_le, n_lt, n_eq, n_cl, ck_n, ck_d, ck_tr, le_t, bd_t, ir_t, bt_r, bt_l, b_t, b_f, b_lt, b_lf, b_ef, z_m1, b_i0, b_i1, z_not, z_ps, f_mb, f_rf, ↓reduceIte, Nat.zero_add, Nat.add_zero, Nat.one_mul, Nat.mul_one, Nat.zero_mul, Nat.mul_zero, not_true_eq_false, not_false_eq_true]
      have hne : (¬ a_bc (a_wri (v (20 + q))) = nI 0) = True := eq_true hbc
      simp (disch := omega) only [m_X5_discusses, dr_mp, h.mm, hwhy, hw, hs, hwr, o_ones, wri_on, hne, z_0, z_1, z_2, z_3, z_4, z_5, z_6, z_7, z_8, z_9, z_10, z_12, z_13, z_15, z_17, z_20, z_25, z_31, z_33, z_41, z_49, z_57, z_60, z_72, z_100, z_161, z_255, z_256, z_999, z_9999, of_n, nI_add, pk_mul, n_le, n_lt, n_eq, n_cl, ck_n, ck_d, ck_tr, le_t, bd_t, ir_t, bt_r, bt_l, b_t, b_f, b_lt, b_lf, b_ef, z_m1, b_i0, b_i1, z_not, z_ps, f_mb, f_rf, ↓reduceIte, Nat.zero_add, Nat.add_zero, Nat.one_mul, Nat.mul_one, Nat.zero_mul, Nat.mul_zero, not_true_eq_false, not_false_eq_true]
      show lp (st_X5_discusses_44 (some m) (nI q)) (mean, nI 0, nI 0, mput S G u) = _
      rw [fin]
      simp only [a_disc, hw, ↓reduceIte, hdv, hbn]
    · have e := cr_q hn h2 (show 5 ≤ 7 by omega) (show 7 < 10 by omega) hq (V 8 7 q + nI 1)
      have hbr : a_bnr (v (20 + q)) = fun k => if k < 8 then a_mv mean (v (20 + q) k) else v (20 + q) k := by unfold a_bnr; rw [if_neg hbc]
      have eD : (a_disc v q).2 = u_2 (V 8) 7 q (V 8 7 q + nI 1) := by
        simp only [a_disc, hw, ↓reduceIte, hdv, hbr]
        show u_r (a_dv v q) (20 + q) _ = u_2 (u_r _ (20 + q) _) 7 q _
        rw [ur_v (show 7 ≠ 20 + q by omega), eV7]
        rfl
      rw [eD]
      exact e
  · obtain ⟨h1, h2⟩ := o_refuse hg h hn hc
    refine ⟨_, ?_, by simp only [a_disc, hw, ↓reduceIte]; exact h1, h2⟩
    have hle : ¬ a_wd v q ≤ nI 0 := pos_of (by
      unfold a_wd
      repeat' split
      all_goals decide) hw
    simp (disch := omega) only [m_X5_discusses, dr_mp, N_mp, R_mp, rf_mp, mg_1 h, ms_1 hg h, h.mm, h.s, h.ns, hwhy, hw, hle, z_0, z_1, z_2, z_3, z_4, z_5, z_6, z_7, z_8, z_9, z_10, z_12, z_13, z_15, z_17, z_20, z_25, z_31, z_33, z_41, z_49, z_57, z_60, z_72, z_100, z_161, z_255, z_256, z_999, z_9999, of_n, nI_add, pk_mul, n_le, n_lt, n_eq, n_cl, ck_n, ck_d, ck_tr, le_t, bd_t, ir_t, bt_r, bt_l, b_t, b_f, b_lt, b_lf, b_ef, z_m1, b_i0, b_i1, z_not, z_ps, f_mb, f_rf, ↓reduceIte, Nat.zero_add, Nat.add_zero, Nat.one_mul, Nat.mul_one, Nat.zero_mul, Nat.mul_zero, not_true_eq_false, not_false_eq_true, a_disc]
end MW
