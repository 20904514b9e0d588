/-! THE REFERENCE, WRITTEN: what the orders do -/
section MW
variable {S : PH} {G : Nat → Nat} {m n : Nat} {u : AS} {v : AS}
theorem cI (h : RM S G m) (hc : cr (u 1) 0 n v) : cr (p_I (mput S G u) (rf S m 1)) 0 n v := by rw [mg_1 h]; exact hc
theorem o_pays (hg : Gi G) (h : RM S G m) (hn : n ≤ 8) (hc : cr (u 1) 0 n v) {p : Nat} (hp : p < 8) (t : Int32) : ∃ u', m_X5_pays (some m) (nI p) t (mput S G u) = some ((), mput S G u') ∧ cr (u' 1) 0 n (u_2 v 3 p (v 3 p + t)) ∧ s1 u u' := by
  refine ⟨u_2 (u_2 u 1 (9 + p) (u 1 (9 + p) - t)) 1 (41 + p) (u 1 (41 + p) + t), ?_, ?_, ((s1.rf u).set (by omega)).set (by omega)⟩
  · simp (disch := omega) only [m_X5_pays, dr_mp, N_mp, R_mp, rf_mp, mg_1 h, ms_1 hg h, h.mm, h.s, h.ns, z_0, z_1, z_2, z_3, z_4, z_5, z_6, z_7, z_8, z_9, z_10, z_12, z_13, z_15, z_17, z_20, z_25, z_31, z_33, z_41, z_49, z_57, z_60, z_72, z_100, z_161, z_255, z_256, z_999, z_9999, of_n, nI_add, pk_mul, n_le, n_lt, n_eq, n_cl, ck_n, ck_d, ck_tr, le_t, bd_t, ir_t, bt_r, bt_l, b_t, b_f, b_lt, b_lf, b_ef, z_m1, b_i0, b_i1, z_not, z_ps, f_mb, f_rf, ↓reduceIte, Nat.zero_add, Nat.add_zero, Nat.one_mul, Nat.mul_one, Nat.zero_mul, Nat.mul_zero, not_true_eq_false, not_false_eq_true, u_k]
  · rw [u_self, u_self, hc.t hp, hc.p3 hp]
    have e := cr_tok (c := 0) (f := 3) (w := v 3 p + t) (t := a_tok v p - t) hn hc hp (Or.inr rfl) (by
      show v 2 p - v 3 p - t = (u_2 v 3 p (v 3 p + t)) 2 p - (u_2 v 3 p (v 3 p + t)) 3 p
      rw [u_s, u_ne (by omega), Int32.sub_eq_add_neg, Int32.sub_eq_add_neg, Int32.sub_eq_add_neg, Int32.neg_add, Int32.sub_eq_add_neg, Int32.add_assoc])
    rw [show 161 * 0 + (9 + p) = 9 + p by omega, show 161 * 0 + lo 3 p = 41 + p by show 161 * 0 + (17 + 8 * 3 + p) = _; omega] at e
    exact e
theorem o_lay (hg : Gi G) (h : RM S G m) {q w : Nat} (hq : q < 8) (hw : w < 13) (x : Int32) : m_X5_lay (some m) (nI q) (nI w) x (mput S G u) = some ((), mput S G (u_2 u 1 (57 + 13 * q + w) x)) := by
  simp (disch := omega) only [m_X5_lay, dr_mp, N_mp, R_mp, rf_mp, mg_1 h, ms_1 hg h, h.mm, h.s, h.ns, z_0, z_1, z_2, z_3, z_4, z_5, z_6, z_7, z_8, z_9, z_10, z_12, z_13, z_15, z_17, z_20, z_25, z_31, z_33, z_41, z_49, z_57, z_60, z_72, z_100, z_161, z_255, z_256, z_999, z_9999, of_n, nI_add, pk_mul, n_le, n_lt, n_eq, n_cl, ck_n, ck_d, ck_tr, le_t, bd_t, ir_t, bt_r, bt_l, b_t, b_f, b_lt, b_lf, b_ef, z_m1, b_i0, b_i1, z_not, z_ps, f_mb, f_rf, ↓reduceIte, Nat.zero_add, Nat.add_zero, Nat.one_mul, Nat.mul_one, Nat.zero_mul, Nat.mul_zero, not_true_eq_false, not_false_eq_true]
theorem cr_q (hn : n ≤ 8) (hc : cr (u 1) 0 n v) {f q : Nat} (h5 : 5 ≤ f) (hf : f < 10) (hq : q < n) (x : Int32) : cr ((u_2 u 1 (57 + 13 * q + (f - 5)) x) 1) 0 n (u_2 v f q x) := by
  rw [u_self]
  have e := cr_set (c := 0) (w := x) hn hc (show vd n f q by unfold vd; omega) (by omega) (by omega) (by omega)
  rw [show 161 * 0 + lo f q = 57 + 13 * q + (f - 5) by unfold lo; rw [if_neg (by omega), if_pos (by omega)]; omega] at e
  exact e
theorem cr_s (hn : n ≤ 8) (hc : cr (u 1) 0 n v) {p q : Nat} (hp : p < 8) (hq : q < n) (x : Int32) : cr ((u_2 u 1 (57 + 13 * q + (5 + p)) x) 1) 0 n (u_2 v (20 + q) p x) := by
  rw [u_self]
  have e := cr_set (c := 0) (w := x) hn hc (show vd n (20 + q) p by unfold vd; omega) (by omega) (by omega) (by omega)
  rw [show 161 * 0 + lo (20 + q) p = 57 + 13 * q + (5 + p) by unfold lo; rw [if_neg (by omega), if_neg (by omega), if_neg (by omega), if_neg (by omega), if_neg (by omega), if_neg (by omega), if_neg (by omega), if_neg (by omega), if_neg (by omega)]; omega] at e
  exact e
theorem cr_p (hn : n ≤ 8) (hc : cr (u 1) 0 n v) (f : Nat) {p : Nat} (hf : f < 5) (h2 : f ≠ 2) (h3 : f ≠ 3) (hp : p < 8) (x : Int32) : cr ((u_2 u 1 (17 + 8 * f + p) x) 1) 0 n (u_2 v f p x) := by
  rw [u_self]
  have e := cr_set (c := 0) (w := x) hn hc (show vd n f p by unfold vd; omega) h2 h3 (by omega)
  rw [show 161 * 0 + lo f p = 17 + 8 * f + p by unfold lo; rw [if_pos hf]; omega] at e
  exact e
theorem cr_i (hn : n ≤ 8) (hc : cr (u 1) 0 n v) (x : Int32) : cr ((u_2 u 1 0 x) 1) 0 n (u_2 v 14 0 x) ∧ cr ((u_2 u 1 1 x) 1) 0 n (u_2 v 13 0 x) ∧ cr ((u_2 u 1 2 x) 1) 0 n (u_2 v 15 0 x) ∧ cr ((u_2 u 1 3 x) 1) 0 n (u_2 v 16 0 x) := by
  rw [u_self, u_self, u_self, u_self]
  exact ⟨cr_set (c := 0) (w := x) hn hc (show vd n 14 0 by unfold vd; omega) (by omega) (by omega) (by omega), cr_set (c := 0) (w := x) hn hc (show vd n 13 0 by unfold vd; omega) (by omega) (by omega) (by omega), cr_set (c := 0) (w := x) hn hc (show vd n 15 0 by unfold vd; omega) (by omega) (by omega) (by omega), cr_set (c := 0) (w := x) hn hc (show vd n 16 0 by unfold vd; omega) (by omega) (by omega) (by omega)⟩
theorem u_cm {w : AS} {f k g j : Nat} {x y : Int32} (h : f ≠ g) : u_2 (u_2 w f k x) g j y = u_2 (u_2 w g j y) f k x := by
  funext a b
  show (if a = g ∧ b = j then y else if a = f ∧ b = k then x else w a b) = (if a = f ∧ b = k then x else if a = g ∧ b = j then y else w a b)
  by_cases e1 : a = f ∧ b = k
  · rw [if_neg (fun z : a = g ∧ b = j => h (e1.1.symm.trans z.1)), if_pos e1, if_pos e1]
  · rw [if_neg e1, if_neg e1]
theorem o_gets (hg : Gi G) (h : RM S G m) (hn : n ≤ 8) (hc : cr (u 1) 0 n v) {p : Nat} (hp : p < 8) (t : Int32) : ∃ u', m_X5_gets (some m) (nI p) t (mput S G u) = some ((), mput S G u') ∧ cr (u' 1) 0 n (a_give v p t) ∧ s1 u u' := by
  refine ⟨u_2 (u_2 (u_2 u 1 (9 + p) (u 1 (9 + p) + t)) 1 (33 + p) (u 1 (33 + p) + t)) 1 0 (u 1 0 - t), ?_, ?_, (((s1.rf u).set (by omega)).set (by omega)).set (by omega)⟩
  · simp (disch := omega) only [m_X5_gets, dr_mp, N_mp, R_mp, rf_mp, mg_1 h, ms_1 hg h, h.mm, h.s, h.ns, z_0, z_1, z_2, z_3, z_4, z_5, z_6, z_7, z_8, z_9, z_10, z_12, z_13, z_15, z_17, z_20, z_25, z_31, z_33, z_41, z_49, z_57, z_60, z_72, z_100, z_161, z_255, z_256, z_999, z_9999, of_n, nI_add, pk_mul, n_le, n_lt, n_eq, n_cl, ck_n, ck_d, ck_tr, le_t, bd_t, ir_t, bt_r, bt_l, b_t, b_f, b_lt, b_lf, b_ef, z_m1, b_i0, b_i1, z_not, z_ps, f_mb, f_rf, ↓reduceIte, Nat.zero_add, Nat.add_zero, Nat.one_mul, Nat.mul_one, Nat.zero_mul, Nat.mul_zero, not_true_eq_false, not_false_eq_true, u_k]
  · have e := cr_tok (c := 0) (f := 2) (w := v 2 p + t) (t := a_tok v p + t) hn hc hp (Or.inl rfl) (by
      show v 2 p - v 3 p + t = (u_2 v 2 p (v 2 p + t)) 2 p - (u_2 v 2 p (v 2 p + t)) 3 p
      rw [u_s, u_ne (by omega), Int32.sub_eq_add_neg, Int32.sub_eq_add_neg, Int32.add_assoc, Int32.add_assoc, Int32.add_comm (-v 3 p) t])
    rw [show 161 * 0 + (9 + p) = 9 + p by omega, show 161 * 0 + lo 2 p = 33 + p by show 161 * 0 + (17 + 8 * 2 + p) = _; omega] at e
    rw [hc.t hp, hc.p2 hp, hc.i.2.2.1]
    have e2 := (cr_i (u := u_2 (u_2 u 1 (9 + p) (a_tok v p + t)) 1 (33 + p) (v 2 p + t)) hn (by rw [u_self, u_self]; exact e) (v 14 0 - t)).1
    have e3 : a_give v p t = u_2 (u_2 v 2 p (v 2 p + t)) 14 0 (v 14 0 - t) := u_cm (by omega)
    rw [e3]
    exact e2
theorem o_refuse (hg : Gi G) (h : RM S G m) (hn : n ≤ 8) (hc : cr (u 1) 0 n v) : cr ((u_2 u 1 3 (u 1 3 + nI 1)) 1) 0 n (a_ref v) ∧ s1 u (u_2 u 1 3 (u 1 3 + nI 1)) := by
  refine ⟨?_, (s1.rf u).set (by omega)⟩
  rw [hc.i.2.2.2.2]
  exact (cr_i hn hc (v 16 0 + nI 1)).2.2.2
theorem o_takes (hg : Gi G) (h : RM S G m) (hn : n ≤ 8) (hI : IV v) (hc : cr (u 1) 0 n v) {p q : Nat} (hp : p < 8) (hq : q < n) : ∃ u', m_X5_takes (some m) (nI p) (nI q) (mput S G u) = some ((a_take v p q).1, mput S G u') ∧ cr (u' 1) 0 n (a_take v p q).2 ∧ s1 u u' := by
  have hq8 : q < 8 := by omega
  have hwhy := o_why (t := 0) (hM (u := u) h) (cI h hc) hn hp hq hI.s1.1 hI.s1.2 (hI.de hq8).1 (hI.de hq8).2 (rev_on _)
  by_cases hw : a_why v p q = nI 0
  · obtain ⟨u1, h1, h2, h3⟩ := o_pays hg h hn hc hp (nI 2)
    refine ⟨u_2 u1 1 (57 + 13 * q + (5 + p)) (nI 10), ?_, ?_, h3.set (by omega)⟩
    · simp (disch := omega) only [m_X5_takes, dr_mp, R_mp, h.mm, hwhy, hw, z_0, z_1, z_2, z_3, z_4, z_5, z_6, z_7, z_8, z_9, z_10, z_12, z_13, z_15, z_17, z_20, z_25, z_31, z_33, z_41, z_49, z_57, z_60, z_72, z_100, z_161, z_255, z_256, z_999, z_9999, of_n, nI_add, pk_mul, n_le, n_lt, n_eq, n_cl, ck_n, ck_d, ck_tr, le_t, bd_t, ir_t, bt_r, bt_l, b_t, b_f, b_lt, b_lf, b_ef, z_m1, b_i0, b_i1, z_not, z_ps, f_mb, f_rf, ↓reduceIte, Nat.zero_add, Nat.add_zero, Nat.one_mul, Nat.mul_one, Nat.zero_mul, Nat.mul_zero, not_true_eq_false, not_false_eq_true, h1, o_lay hg h, a_take]
    · have e := cr_s hn h2 hp hq (nI 10)
      rw [u_cm (by omega)] at e
      simp only [a_take, hw, ↓reduceIte]
      exact e
  · obtain ⟨h1, h2⟩ := o_refuse hg h hn hc
    refine ⟨_, ?_, by simp only [a_take, hw, ↓reduceIte]; exact h1, h2⟩
    have hle : ¬ a_why v p q ≤ nI 0 := by
      intro z
      apply hw
      have hz := i_le.mp z
      have e0 : (nI 0).toInt = 0 := by decide
      apply Int32.toInt_inj.mp
      have hge : 0 ≤ (a_why v p q).toInt := by
        unfold a_why
        repeat' split
        all_goals decide
      omega
    simp (disch := omega) only [m_X5_takes, dr_mp, N_mp, R_mp, rf_mp, mg_1 h, ms_1 hg h, h.mm, h.s, h.ns, hwhy, hw, hle, z_0, z_1, z_2, z_3, z_4, z_5, z_6, z_7, z_8, z_9, z_10, z_12, z_13, z_15, z_17, z_20, z_25, z_31, z_33, z_41, z_49, z_57, z_60, z_72, z_100, z_161, z_255, z_256, z_999, z_9999, of_n, nI_add, pk_mul, n_le, n_lt, n_eq, n_cl, ck_n, ck_d, ck_tr, le_t, bd_t, ir_t, bt_r, bt_l, b_t, b_f, b_lt, b_lf, b_ef, z_m1, b_i0, b_i1, z_not, z_ps, f_mb, f_rf, ↓reduceIte, Nat.zero_add, Nat.add_zero, Nat.one_mul, Nat.mul_one, Nat.zero_mul, Nat.mul_zero, not_true_eq_false, not_false_eq_true, a_take]
theorem o_drops (hg : Gi G) (h : RM S G m) (hn : n ≤ 8) (hc : cr (u 1) 0 n v) {p q : Nat} (hp : p < 8) (hq : q < n) : ∃ u', m_X5_drops (some m) (nI p) (nI q) (mput S G u) = some ((), mput S G u') ∧ cr (u' 1) 0 n (a_drop v p q) ∧ s1 u u' := by
  have c1 := cr_s hn hc hp hq nM
  obtain ⟨u1, h1, h2, h3⟩ := o_pays hg h hn c1 hp nM
  have h4 := h2.p4 hp
  have c2 := cr_p hn h2 4 (by omega) (by omega) (by omega) hp (v 4 p + nI 1)
  refine ⟨u_2 u1 1 (49 + p) (u1 1 (49 + p) + nI 1), ?_, ?_, (((s1.rf u).set (by omega)).tr h3).set (by omega)⟩
  · simp (disch := omega) only [m_X5_drops, dr_mp, N_mp, R_mp, rf_mp, mg_1 h, ms_1 hg h, h.mm, h.s, h.ns, z_0, z_1, z_2, z_3, z_4, z_5, z_6, z_7, z_8, z_9, z_10, z_12, z_13, z_15, z_17, z_20, z_25, z_31, z_33, z_41, z_49, z_57, z_60, z_72, z_100, z_161, z_255, z_256, z_999, z_9999, of_n, nI_add, pk_mul, n_le, n_lt, n_eq, n_cl, ck_n, ck_d, ck_tr, le_t, bd_t, ir_t, bt_r, bt_l, b_t, b_f, b_lt, b_lf, b_ef, z_m1, b_i0, b_i1, z_not, z_ps, f_mb, f_rf, ↓reduceIte, Nat.zero_add, Nat.add_zero, Nat.one_mul, Nat.mul_one, Nat.zero_mul, Nat.mul_zero, not_true_eq_false, not_false_eq_true, o_lay hg h, h1]
  · rw [h4, u_ne (show 4 ≠ 3 by omega), u_ne (show 4 ≠ 20 + q by omega)]
    unfold a_drop
    have e : v 3 p + nM = v 3 p - nI 1 := by
      rw [Int32.sub_eq_add_neg]
      rfl
    rw [u_ne (show 3 ≠ 20 + q by omega), e] at c2
    exact c2
end MW
