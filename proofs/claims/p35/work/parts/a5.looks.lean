/-! THE LAW LOOKS: what it hashes is told by the present state alone -/
def lk1 (v : AS) (a : Int64) : Nat → Int64 := fun n => fo (fun w a => (31 : Int64) * a + Int32.toInt64 (a_num v (nI 0) w)) n a
def lk2 (v : AS) (a : Int64) : Nat → Int64 := fun n => fo (fun k a => (31 : Int64) * a + Int32.toInt64 (a_per v (k / 9) (k % 9))) n a
def lk3 (v : AS) (q : Nat) (a : Int64) : Nat → Int64 := fun n => fo (fun k a => (31 : Int64) * ((31 : Int64) * a + Int32.toInt64 (a_pap v q (k + 2))) + Int32.toInt64 (v (20 + q) k)) n a
def lk4 (v : AS) (a : Int64) : Nat → Int64 := fun n => fo (fun q a => lk3 v q a 8) n a
def lk5 (v : AS) (a : Int64) : Int64 := (((31 : Int64) * ((31 : Int64) * a + Int32.toInt64 (v 11 0)) + Int32.toInt64 (nI 10 * v 11 1)) + Int32.toInt64 (nI 100 * v 11 2)) + Int32.toInt64 (v 11 3)
def LK (v : AS) : Int64 := lk5 v (lk4 v (lk2 v (lk1 v 19 11) 72) (a_n v))
theorem r_9 {k : Nat} : nI k - nI (k / 9 * 9) = nI (k % 9) := by
  rw [pk_sub (by omega)]
  congr 1
  omega
theorem d_9 {k : Nat} (hk : k < 1000) : nI k / nI 9 = nI (k / 9) := pk_div (by omega) (by omega) (by omega)
section LO
variable {S : PH} {G : Nat → Nat} {x nw : Nat} {v : AS} {hs : List AS} {nx : Nat} {sl : Nat → Option AS} {tn : Nat} {tx : Nat → Int32} {q n : Nat}
theorem q_lk3 (h : RelC S G x nw v hs nx sl tn tx) (hI : IV v) (hn : v 12 0 = nI n) (h8 : n ≤ 8) (hq : q < n) (a : Int64) : lp (st_L_looks_79 (some x)) (a, nI q, nI 0, S) = some (.inl (lk3 v q a 8, nI (q + 1), S)) := by
  refine lpF 8 (fun i => (lk3 v q a i, nI q, nI i, S)) _ rfl (fun i hi => ?_) ?_
  · simp (disch := omega) only [st_L_looks_79, h.rc.x4, g_pap h hI hn h8 hq, g_sco h hI hn h8, z_0, z_1, z_2, z_3, z_4, z_5, z_6, z_7, z_8, z_9, z_10, z_12, z_13, z_15, z_17, z_20, z_25, z_31, z_33, z_41, z_49, z_57, z_60, z_72, z_100, z_161, z_255, z_256, z_999, z_9999, of_n, nI_add, pk_mul, n_le, n_lt, n_eq, n_cl, ck_n, ck_d, ck_tr, le_t, bd_t, ir_t, bt_r, bt_l, b_t, b_f, b_lt, b_lf, b_ef, z_m1, b_i0, b_i1, z_not, z_ps, f_mb, f_rf, ↓reduceIte, Nat.zero_add, Nat.add_zero, Nat.one_mul, Nat.mul_one, Nat.zero_mul, Nat.mul_zero, not_true_eq_false, not_false_eq_true, lk3, fo]
  · simp (disch := omega) only [st_L_looks_79, z_0, z_1, z_2, z_3, z_4, z_5, z_6, z_7, z_8, z_9, z_10, z_12, z_13, z_15, z_17, z_20, z_25, z_31, z_33, z_41, z_49, z_57, z_60, z_72, z_100, z_161, z_255, z_256, z_999, z_9999, of_n, nI_add, pk_mul, n_le, n_lt, n_eq, n_cl, ck_n, ck_d, ck_tr, le_t, bd_t, ir_t, bt_r, bt_l, b_t, b_f, b_lt, b_lf, b_ef, z_m1, b_i0, b_i1, z_not, z_ps, f_mb, f_rf, ↓reduceIte, Nat.zero_add, Nat.add_zero, Nat.one_mul, Nat.mul_one, Nat.zero_mul, Nat.mul_zero, not_true_eq_false, not_false_eq_true]
theorem q_lk4 (h : RelC S G x nw v hs nx sl tn tx) (hI : IV v) (hn : v 12 0 = nI n) (h8 : n ≤ 8) (a : Int64) : lp (st_L_looks_67 (some x)) (a, nI 0, S) = some (.inr (lk5 v (lk4 v a n)), S) := by
  refine lpF n (fun i => (lk4 v a i, nI i, S)) _ rfl (fun i hi => ?_) ?_
  · simp (disch := omega) only [st_L_looks_67, h.rc.x4, g_cnt h, a_num, hn, q_lk3 h hI hn h8, z_0, z_1, z_2, z_3, z_4, z_5, z_6, z_7, z_8, z_9, z_10, z_12, z_13, z_15, z_17, z_20, z_25, z_31, z_33, z_41, z_49, z_57, z_60, z_72, z_100, z_161, z_255, z_256, z_999, z_9999, of_n, nI_add, pk_mul, n_le, n_lt, n_eq, n_cl, ck_n, ck_d, ck_tr, le_t, bd_t, ir_t, bt_r, bt_l, b_t, b_f, b_lt, b_lf, b_ef, z_m1, b_i0, b_i1, z_not, z_ps, f_mb, f_rf, ↓reduceIte, Nat.zero_add, Nat.add_zero, Nat.one_mul, Nat.mul_one, Nat.zero_mul, Nat.mul_zero, not_true_eq_false, not_false_eq_true, lk4, fo]
  · simp (disch := omega) only [st_L_looks_67, h.rc.x4, g_cnt h, a_num, hn, g_set h, z_0, z_1, z_2, z_3, z_4, z_5, z_6, z_7, z_8, z_9, z_10, z_12, z_13, z_15, z_17, z_20, z_25, z_31, z_33, z_41, z_49, z_57, z_60, z_72, z_100, z_161, z_255, z_256, z_999, z_9999, of_n, nI_add, pk_mul, n_le, n_lt, n_eq, n_cl, ck_n, ck_d, ck_tr, le_t, bd_t, ir_t, bt_r, bt_l, b_t, b_f, b_lt, b_lf, b_ef, z_m1, b_i0, b_i1, z_not, z_ps, f_mb, f_rf, ↓reduceIte, Nat.zero_add, Nat.add_zero, Nat.one_mul, Nat.mul_one, Nat.zero_mul, Nat.mul_zero, not_true_eq_false, not_false_eq_true, lk5]
theorem q_lk2 (h : RelC S G x nw v hs nx sl tn tx) (hI : IV v) (hn : v 12 0 = nI n) (h8 : n ≤ 8) (a : Int64) : lp (st_L_looks_33 (some x)) (a, nI 0, S) = some (.inr (lk5 v (lk4 v (lk2 v a 72) n)), S) := by
  refine lpF 72 (fun i => (lk2 v a i, nI i, S)) _ rfl (fun i hi => ?_) ?_
  · simp (disch := omega) only [st_L_looks_33, h.rc.x4, d_9, r_9, g_per h hI, z_0, z_1, z_2, z_3, z_4, z_5, z_6, z_7, z_8, z_9, z_10, z_12, z_13, z_15, z_17, z_20, z_25, z_31, z_33, z_41, z_49, z_57, z_60, z_72, z_100, z_161, z_255, z_256, z_999, z_9999, of_n, nI_add, pk_mul, n_le, n_lt, n_eq, n_cl, ck_n, ck_d, ck_tr, le_t, bd_t, ir_t, bt_r, bt_l, b_t, b_f, b_lt, b_lf, b_ef, z_m1, b_i0, b_i1, z_not, z_ps, f_mb, f_rf, ↓reduceIte, Nat.zero_add, Nat.add_zero, Nat.one_mul, Nat.mul_one, Nat.zero_mul, Nat.mul_zero, not_true_eq_false, not_false_eq_true, lk2, fo]
  · simp (disch := omega) only [st_L_looks_33, q_lk4 h hI hn h8, z_0, z_1, z_2, z_3, z_4, z_5, z_6, z_7, z_8, z_9, z_10, z_12, z_13, z_15, z_17, z_20, z_25, z_31, z_33, z_41, z_49, z_57, z_60, z_72, z_100, z_161, z_255, z_256, z_999, z_9999, of_n, nI_add, pk_mul, n_le, n_lt, n_eq, n_cl, ck_n, ck_d, ck_tr, le_t, bd_t, ir_t, bt_r, bt_l, b_t, b_f, b_lt, b_lf, b_ef, z_m1, b_i0, b_i1, z_not, z_ps, f_mb, f_rf, ↓reduceIte, Nat.zero_add, Nat.add_zero, Nat.one_mul, Nat.mul_one, Nat.zero_mul, Nat.mul_zero, not_true_eq_false, not_false_eq_true]
theorem q_looks (h : RelC S G x nw v hs nx sl tn tx) (hI : IV v) : m_L_looks (some x) S = some (.inr (LK v), S) := by
  obtain ⟨en, h8⟩ := hI.in_
  have key : ∀ n, v 12 0 = nI n → n ≤ 8 → m_L_looks (some x) S = some (.inr (lk5 v (lk4 v (lk2 v (lk1 v 19 11) 72) n)), S) := by
    intro n hn h8
    have nh : ∀ w, w < 11 → a_num v (nI hs.length) w = a_num v (nI 0) w := fun w hw => num_hl v (nI hs.length) w hw
    unfold m_L_looks
    refine lpF 11 (fun i => (lk1 v 19 i, nI i, S)) _ rfl (fun i hi => ?_) ?_
    · simp (disch := omega) only [st_L_looks_6, z_11, h.rc.x4, g_cnt h, nh, z_0, z_1, z_2, z_3, z_4, z_5, z_6, z_7, z_8, z_9, z_10, z_12, z_13, z_15, z_17, z_20, z_25, z_31, z_33, z_41, z_49, z_57, z_60, z_72, z_100, z_161, z_255, z_256, z_999, z_9999, of_n, nI_add, pk_mul, n_le, n_lt, n_eq, n_cl, ck_n, ck_d, ck_tr, le_t, bd_t, ir_t, bt_r, bt_l, b_t, b_f, b_lt, b_lf, b_ef, z_m1, b_i0, b_i1, z_not, z_ps, f_mb, f_rf, ↓reduceIte, Nat.zero_add, Nat.add_zero, Nat.one_mul, Nat.mul_one, Nat.zero_mul, Nat.mul_zero, not_true_eq_false, not_false_eq_true, lk1, fo]
    · simp (disch := omega) only [st_L_looks_6, z_11, q_lk2 h hI hn h8, z_0, z_1, z_2, z_3, z_4, z_5, z_6, z_7, z_8, z_9, z_10, z_12, z_13, z_15, z_17, z_20, z_25, z_31, z_33, z_41, z_49, z_57, z_60, z_72, z_100, z_161, z_255, z_256, z_999, z_9999, of_n, nI_add, pk_mul, n_le, n_lt, n_eq, n_cl, ck_n, ck_d, ck_tr, le_t, bd_t, ir_t, bt_r, bt_l, b_t, b_f, b_lt, b_lf, b_ef, z_m1, b_i0, b_i1, z_not, z_ps, f_mb, f_rf, ↓reduceIte, Nat.zero_add, Nat.add_zero, Nat.one_mul, Nat.mul_one, Nat.zero_mul, Nat.mul_zero, not_true_eq_false, not_false_eq_true]
  exact key _ en h8
end LO
