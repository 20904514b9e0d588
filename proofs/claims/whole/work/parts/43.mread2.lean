/-! THE REFERENCE, READ: it answers as the class does -/
theorem fo_ext {β : Type} {f : Nat → β → β} {a : β} {n m : Nat} (hnm : n ≤ m) (h : ∀ i b, n ≤ i → i < m → f i b = b) : fo f m a = fo f n a := by
  obtain ⟨k, rfl⟩ : ∃ k, m = n + k := ⟨m - n, by omega⟩
  induction k with
  | zero => rfl
  | succ k ih =>
    show f (n + k) (fo f (n + k) a) = _
    rw [h (n + k) _ (by omega) (by omega)]
    exact ih (by omega) (fun i b h1 h2 => h i b h1 (by omega))
section MO
variable {S : PH} {G : Nat → Nat} {m n : Nat} {v : AS}
theorem o_canWrite (h : RM S G m) (hc : cr (p_I S (rf S m 1)) 0 n v) (hn : n ≤ 8) {p q : Nat} (hp : p < 8) (hq : q < n) : m_X5_canWrite (some m) (nI p) (nI q) S = some (if a_cw v p q then nI 1 else nI 0, S) := by
  simp (disch := omega) only [m_X5_canWrite, o_score h hc hn, o_of h, z_0, z_1, z_2, z_3, z_4, z_5, z_6, z_7, z_8, z_9, z_10, z_12, z_13, z_15, z_17, z_20, z_25, z_31, z_33, z_41, z_49, z_57, z_60, z_72, z_100, z_161, z_255, z_256, z_999, z_9999, of_n, nI_add, pk_mul, n_le, n_lt, n_eq, n_cl, ck_n, ck_d, ck_tr, le_t, bd_t, ir_t, bt_r, bt_l, b_t, b_f, b_lt, b_lf, b_ef, z_m1, b_i0, b_i1, z_not, z_ps, f_mb, f_rf, ↓reduceIte, Nat.zero_add, Nat.add_zero, Nat.one_mul, Nat.mul_one, Nat.zero_mul, Nat.mul_zero, not_true_eq_false, not_false_eq_true, h.mm, h.s, h.ns, h.k, h.nk, h.t, h.nt, h.y, h.ny, hc.t, hc.p0, hc.p1, hc.p2, hc.p3, hc.p4, hc.q0, hc.q1, hc.q2, hc.q3, hc.q4, hc.c0, hc.c1, hc.c2, hc.c3, hc.i.1, hc.i.2.1, hc.i.2.2.1, hc.i.2.2.2.1, hc.i.2.2.2.2, hc.sc hn, nar_b, a_cw]
  by_cases h1 : v (20 + q) p = nM
  · simp only [h1, ↓reduceIte, decide_true, Bool.not_true, Bool.false_and, Bool.false_eq_true]
  · by_cases h2 : v 9 q = nI 0
    · simp only [h1, h2, ↓reduceIte, decide_true, decide_false, Bool.not_false, Bool.true_and]
    · simp only [h1, h2, ↓reduceIte, decide_false, Bool.not_false, Bool.true_and, Bool.false_eq_true]
theorem tok0 (hI : IV v) {p : Nat} (hp : p < 8) : (a_tok v p = nI 0) = (a_tok v p < nI 1) := by
  rw [hI.tok hp]
  have h1 := hI.go hp
  simp (disch := omega) only [n_eq, n_lt]
  exact propext ⟨fun h => by omega, fun h => by omega⟩
theorem o_whyD (h : RM S G m) (hc : cr (p_I S (rf S m 1)) 0 n v) (hn : n ≤ 8) (hI : IV v) {q : Nat} (hq : q < n) : m_X5_reasonAgainstTalk (some m) (nI q) S = some (a_wd v q, S) := by
  have hq8 : q < 8 := by omega
  have key : lp (st_X5_reasonAgainstTalk_28 (some m) (nI q)) (nI 0, S) = some (if a_any (a_poor v (a_wri (v (20 + q)))) 0 then nI 3 else nI 0, S) := by
    refine lpG 8 (fun i => (nI i, S)) (fun i => (if a_any (a_poor v (a_wri (v (20 + q)))) i then nI 3 else nI 0, S)) rfl (fun i hi => ?_) ?_
    · simp (disch := omega) only [st_X5_reasonAgainstTalk_28, o_isWritten h hc hn, z_0, z_1, z_2, z_3, z_4, z_5, z_6, z_7, z_8, z_9, z_10, z_12, z_13, z_15, z_17, z_20, z_25, z_31, z_33, z_41, z_49, z_57, z_60, z_72, z_100, z_161, z_255, z_256, z_999, z_9999, of_n, nI_add, pk_mul, n_le, n_lt, n_eq, n_cl, ck_n, ck_d, ck_tr, le_t, bd_t, ir_t, bt_r, bt_l, b_t, b_f, b_lt, b_lf, b_ef, z_m1, b_i0, b_i1, z_not, z_ps, f_mb, f_rf, ↓reduceIte, Nat.zero_add, Nat.add_zero, Nat.one_mul, Nat.mul_one, Nat.zero_mul, Nat.mul_zero, not_true_eq_false, not_false_eq_true, h.mm, h.s, h.ns, h.k, h.nk, h.t, h.nt, h.y, h.ny, hc.t, hc.p0, hc.p1, hc.p2, hc.p3, hc.p4, hc.q0, hc.q1, hc.q2, hc.q3, hc.q4, hc.c0, hc.c1, hc.c2, hc.c3, hc.i.1, hc.i.2.1, hc.i.2.2.1, hc.i.2.2.2.1, hc.i.2.2.2.2, hc.sc hn, nar_b, a_any_s hi, tok0 hI hi]
      by_cases h1 : isS (v (20 + q) i) = true
      · by_cases h2 : a_tok v i < nI 1
        · have e : a_poor v (a_wri (v (20 + q))) i = true := by simp only [a_poor, wri_hb _ hi, h1, decide_eq_true h2, Bool.true_and]
          left
          simp only [h1, h2, e, Bool.true_or, ↓reduceIte, if_true]
        · have e : a_poor v (a_wri (v (20 + q))) i = false := by simp only [a_poor, wri_hb _ hi, h1, decide_eq_false h2, Bool.true_and]
          right
          simp only [h1, h2, e, Bool.false_or, ↓reduceIte, if_true, true_and, and_true]
      · have e : a_poor v (a_wri (v (20 + q))) i = false := by simp only [a_poor, wri_hb _ hi, Bool.not_eq_true _ ▸ h1, Bool.false_and]
        right
        simp only [h1, e, Bool.false_or, ↓reduceIte, Bool.false_eq_true, true_and, and_true]
    · simp (disch := omega) only [st_X5_reasonAgainstTalk_28, z_0, z_1, z_2, z_3, z_4, z_5, z_6, z_7, z_8, z_9, z_10, z_12, z_13, z_15, z_17, z_20, z_25, z_31, z_33, z_41, z_49, z_57, z_60, z_72, z_100, z_161, z_255, z_256, z_999, z_9999, of_n, nI_add, pk_mul, n_le, n_lt, n_eq, n_cl, ck_n, ck_d, ck_tr, le_t, bd_t, ir_t, bt_r, bt_l, b_t, b_f, b_lt, b_lf, b_ef, z_m1, b_i0, b_i1, z_not, z_ps, f_mb, f_rf, ↓reduceIte, Nat.zero_add, Nat.add_zero, Nat.one_mul, Nat.mul_one, Nat.zero_mul, Nat.mul_zero, not_true_eq_false, not_false_eq_true, a_any_8, Bool.false_eq_true]
  have hd := hI.de hq8
  simp (disch := omega) only [m_X5_reasonAgainstTalk, o_of h, o_wri h hc hn hq, o_ones, wri_on, z_0, z_1, z_2, z_3, z_4, z_5, z_6, z_7, z_8, z_9, z_10, z_12, z_13, z_15, z_17, z_20, z_25, z_31, z_33, z_41, z_49, z_57, z_60, z_72, z_100, z_161, z_255, z_256, z_999, z_9999, of_n, nI_add, pk_mul, n_le, n_lt, n_eq, n_cl, ck_n, ck_d, ck_tr, le_t, bd_t, ir_t, bt_r, bt_l, b_t, b_f, b_lt, b_lf, b_ef, z_m1, b_i0, b_i1, z_not, z_ps, f_mb, f_rf, ↓reduceIte, Nat.zero_add, Nat.add_zero, Nat.one_mul, Nat.mul_one, Nat.zero_mul, Nat.mul_zero, not_true_eq_false, not_false_eq_true, h.mm, h.s, h.ns, h.k, h.nk, h.t, h.nt, h.y, h.ny, hc.t, hc.p0, hc.p1, hc.p2, hc.p3, hc.p4, hc.q0, hc.q1, hc.q2, hc.q3, hc.q4, hc.c0, hc.c1, hc.c2, hc.c3, hc.i.1, hc.i.2.1, hc.i.2.2.1, hc.i.2.2.2.1, hc.i.2.2.2.2, hc.sc hn, nar_b, key, a_wd]
  rw [hd.1]
  rcases Nat.eq_zero_or_pos (nv v 9 q) with g | g
  · rw [g]
    simp (disch := omega) only [z_0, z_1, z_2, z_3, z_4, z_5, z_6, z_7, z_8, z_9, z_10, z_12, z_13, z_15, z_17, z_20, z_25, z_31, z_33, z_41, z_49, z_57, z_60, z_72, z_100, z_161, z_255, z_256, z_999, z_9999, of_n, nI_add, pk_mul, n_le, n_lt, n_eq, n_cl, ck_n, ck_d, ck_tr, le_t, bd_t, ir_t, bt_r, bt_l, b_t, b_f, b_lt, b_lf, b_ef, z_m1, b_i0, b_i1, z_not, z_ps, f_mb, f_rf, ↓reduceIte, Nat.zero_add, Nat.add_zero, Nat.one_mul, Nat.mul_one, Nat.zero_mul, Nat.mul_zero, not_true_eq_false, not_false_eq_true]
    repeat' (split <;> rename_i hc <;> (try simp only [hc, ↓reduceIte, not_false_eq_true, Bool.false_eq_true, decide_true, decide_false, Bool.not_true, Bool.not_false, Bool.false_and, Bool.true_and]) <;> try rfl)
  · simp (disch := omega) only [z_0, z_1, z_2, z_3, z_4, z_5, z_6, z_7, z_8, z_9, z_10, z_12, z_13, z_15, z_17, z_20, z_25, z_31, z_33, z_41, z_49, z_57, z_60, z_72, z_100, z_161, z_255, z_256, z_999, z_9999, of_n, nI_add, pk_mul, n_le, n_lt, n_eq, n_cl, ck_n, ck_d, ck_tr, le_t, bd_t, ir_t, bt_r, bt_l, b_t, b_f, b_lt, b_lf, b_ef, z_m1, b_i0, b_i1, z_not, z_ps, f_mb, f_rf, ↓reduceIte, Nat.zero_add, Nat.add_zero, Nat.one_mul, Nat.mul_one, Nat.zero_mul, Nat.mul_zero, not_true_eq_false, not_false_eq_true]
theorem o_canDecide (h : RM S G m) (hc : cr (p_I S (rf S m 1)) 0 n v) (hn : n ≤ 8) {q : Nat} (hq : q < n) : m_X5_canDecide (some m) (nI q) S = some (if a_cd v q then nI 1 else nI 0, S) := by
  simp (disch := omega) only [m_X5_canDecide, o_of h, o_wri h hc hn hq, o_rev h hc hn hq, o_ones, wri_on, z_0, z_1, z_2, z_3, z_4, z_5, z_6, z_7, z_8, z_9, z_10, z_12, z_13, z_15, z_17, z_20, z_25, z_31, z_33, z_41, z_49, z_57, z_60, z_72, z_100, z_161, z_255, z_256, z_999, z_9999, of_n, nI_add, pk_mul, n_le, n_lt, n_eq, n_cl, ck_n, ck_d, ck_tr, le_t, bd_t, ir_t, bt_r, bt_l, b_t, b_f, b_lt, b_lf, b_ef, z_m1, b_i0, b_i1, z_not, z_ps, f_mb, f_rf, ↓reduceIte, Nat.zero_add, Nat.add_zero, Nat.one_mul, Nat.mul_one, Nat.zero_mul, Nat.mul_zero, not_true_eq_false, not_false_eq_true, h.mm, h.s, h.ns, h.k, h.nk, h.t, h.nt, h.y, h.ny, hc.t, hc.p0, hc.p1, hc.p2, hc.p3, hc.p4, hc.q0, hc.q1, hc.q2, hc.q3, hc.q4, hc.c0, hc.c1, hc.c2, hc.c3, hc.i.1, hc.i.2.1, hc.i.2.2.1, hc.i.2.2.2.1, hc.i.2.2.2.2, hc.sc hn, nar_b, a_cd]
  repeat' (split <;> rename_i hc <;> (try simp only [hc, ↓reduceIte, not_false_eq_true, Bool.false_eq_true, decide_true, decide_false, Bool.not_true, Bool.not_false, Bool.false_and, Bool.true_and]) <;> try rfl)
theorem o_load (h : RM S G m) (hc : cr (p_I S (rf S m 1)) 0 n v) (hn : n ≤ 8) (hI : IV v) (hk : n = a_n v) {p : Nat} (hp : p < 8) : m_X5_reviewsOf (some m) (nI p) (nI 0) S = some (a_load v p, S) := by
  have hnn : v 12 0 = nI n := by rw [hk]; exact hI.in_.1
  have e : a_load v p = fo (fun q n => if v (20 + q) p = nM then n else if v 9 q = nI 0 then n + nI 1 else n) n (nI 0) := fo_ext hn (fun i b h1 h2 => by rw [if_pos ((hI.ab (by omega) h2).1 p hp)])
  rw [e]
  unfold m_X5_reviewsOf
  refine lpF n (fun i => (fo (fun q n => if v (20 + q) p = nM then n else if v 9 q = nI 0 then n + nI 1 else n) i (nI 0), nI i, S)) _ rfl (fun i hi => ?_) ?_
  · simp (disch := omega) only [st_X5_reviewsOf_5, j_X5_reviewsOf_57, o_of h, o_score h hc hn, hnn, add_0, z_0, z_1, z_2, z_3, z_4, z_5, z_6, z_7, z_8, z_9, z_10, z_12, z_13, z_15, z_17, z_20, z_25, z_31, z_33, z_41, z_49, z_57, z_60, z_72, z_100, z_161, z_255, z_256, z_999, z_9999, of_n, nI_add, pk_mul, n_le, n_lt, n_eq, n_cl, ck_n, ck_d, ck_tr, le_t, bd_t, ir_t, bt_r, bt_l, b_t, b_f, b_lt, b_lf, b_ef, z_m1, b_i0, b_i1, z_not, z_ps, f_mb, f_rf, ↓reduceIte, Nat.zero_add, Nat.add_zero, Nat.one_mul, Nat.mul_one, Nat.zero_mul, Nat.mul_zero, not_true_eq_false, not_false_eq_true, h.mm, h.s, h.ns, h.k, h.nk, h.t, h.nt, h.y, h.ny, hc.t, hc.p0, hc.p1, hc.p2, hc.p3, hc.p4, hc.q0, hc.q1, hc.q2, hc.q3, hc.q4, hc.c0, hc.c1, hc.c2, hc.c3, hc.i.1, hc.i.2.1, hc.i.2.2.1, hc.i.2.2.2.1, hc.i.2.2.2.2, hc.sc hn, nar_b, fo]
    repeat' (split <;> rename_i hc <;> (try simp only [hc, ↓reduceIte, not_false_eq_true, Bool.false_eq_true, decide_true, decide_false, Bool.not_true, Bool.not_false, Bool.false_and, Bool.true_and]) <;> try rfl)
  · simp (disch := omega) only [st_X5_reviewsOf_5, hnn, z_0, z_1, z_2, z_3, z_4, z_5, z_6, z_7, z_8, z_9, z_10, z_12, z_13, z_15, z_17, z_20, z_25, z_31, z_33, z_41, z_49, z_57, z_60, z_72, z_100, z_161, z_255, z_256, z_999, z_9999, of_n, nI_add, pk_mul, n_le, n_lt, n_eq, n_cl, ck_n, ck_d, ck_tr, le_t, bd_t, ir_t, bt_r, bt_l, b_t, b_f, b_lt, b_lf, b_ef, z_m1, b_i0, b_i1, z_not, z_ps, f_mb, f_rf, ↓reduceIte, Nat.zero_add, Nat.add_zero, Nat.one_mul, Nat.mul_one, Nat.zero_mul, Nat.mul_zero, not_true_eq_false, not_false_eq_true, h.mm, h.s, h.ns, h.k, h.nk, h.t, h.nt, h.y, h.ny, hc.t, hc.p0, hc.p1, hc.p2, hc.p3, hc.p4, hc.q0, hc.q1, hc.q2, hc.q3, hc.q4, hc.c0, hc.c1, hc.c2, hc.c3, hc.i.1, hc.i.2.1, hc.i.2.2.1, hc.i.2.2.2.1, hc.i.2.2.2.2, hc.sc hn, nar_b]
theorem o_wrt (h : RM S G m) (hc : cr (p_I S (rf S m 1)) 0 n v) (hn : n ≤ 8) (hI : IV v) (hk : n = a_n v) {p : Nat} (hp : p < 8) : m_X5_reviewsOf (some m) (nI p) (nI 1) S = some (a_wrt v p, S) := by
  have hnn : v 12 0 = nI n := by rw [hk]; exact hI.in_.1
  have e : a_wrt v p = fo (fun q n => if isS (v (20 + q) p) then n + nI 1 else n) n (nI 0) := fo_ext hn (fun i b h1 h2 => by rw [(hI.ab (by omega) h2).1 p hp, isS_nM]; rfl)
  rw [e]
  unfold m_X5_reviewsOf
  refine lpF n (fun i => (fo (fun q n => if isS (v (20 + q) p) then n + nI 1 else n) i (nI 0), nI i, S)) _ rfl (fun i hi => ?_) ?_
  · simp (disch := omega) only [st_X5_reviewsOf_5, j_X5_reviewsOf_57, o_isWritten h hc hn, hnn, add_0, z_0, z_1, z_2, z_3, z_4, z_5, z_6, z_7, z_8, z_9, z_10, z_12, z_13, z_15, z_17, z_20, z_25, z_31, z_33, z_41, z_49, z_57, z_60, z_72, z_100, z_161, z_255, z_256, z_999, z_9999, of_n, nI_add, pk_mul, n_le, n_lt, n_eq, n_cl, ck_n, ck_d, ck_tr, le_t, bd_t, ir_t, bt_r, bt_l, b_t, b_f, b_lt, b_lf, b_ef, z_m1, b_i0, b_i1, z_not, z_ps, f_mb, f_rf, ↓reduceIte, Nat.zero_add, Nat.add_zero, Nat.one_mul, Nat.mul_one, Nat.zero_mul, Nat.mul_zero, not_true_eq_false, not_false_eq_true, h.mm, h.s, h.ns, h.k, h.nk, h.t, h.nt, h.y, h.ny, hc.t, hc.p0, hc.p1, hc.p2, hc.p3, hc.p4, hc.q0, hc.q1, hc.q2, hc.q3, hc.q4, hc.c0, hc.c1, hc.c2, hc.c3, hc.i.1, hc.i.2.1, hc.i.2.2.1, hc.i.2.2.2.1, hc.i.2.2.2.2, hc.sc hn, nar_b, fo]
    repeat' (split <;> rename_i hc <;> (try simp only [hc, ↓reduceIte, not_false_eq_true, Bool.false_eq_true, decide_true, decide_false, Bool.not_true, Bool.not_false, Bool.false_and, Bool.true_and]) <;> try rfl)
  · simp (disch := omega) only [st_X5_reviewsOf_5, hnn, z_0, z_1, z_2, z_3, z_4, z_5, z_6, z_7, z_8, z_9, z_10, z_12, z_13, z_15, z_17, z_20, z_25, z_31, z_33, z_41, z_49, z_57, z_60, z_72, z_100, z_161, z_255, z_256, z_999, z_9999, of_n, nI_add, pk_mul, n_le, n_lt, n_eq, n_cl, ck_n, ck_d, ck_tr, le_t, bd_t, ir_t, bt_r, bt_l, b_t, b_f, b_lt, b_lf, b_ef, z_m1, b_i0, b_i1, z_not, z_ps, f_mb, f_rf, ↓reduceIte, Nat.zero_add, Nat.add_zero, Nat.one_mul, Nat.mul_one, Nat.zero_mul, Nat.mul_zero, not_true_eq_false, not_false_eq_true, h.mm, h.s, h.ns, h.k, h.nk, h.t, h.nt, h.y, h.ny, hc.t, hc.p0, hc.p1, hc.p2, hc.p3, hc.p4, hc.q0, hc.q1, hc.q2, hc.q3, hc.q4, hc.c0, hc.c1, hc.c2, hc.c3, hc.i.1, hc.i.2.1, hc.i.2.2.1, hc.i.2.2.2.1, hc.i.2.2.2.2, hc.sc hn, nar_b]
theorem o_pic (h : RM S G m) (hc : cr (p_I S (rf S m 1)) 0 n v) (hn : n ≤ 8) (hI : IV v) (hk : n = a_n v) {p : Nat} (hp : p < 8) : m_X5_conflicts (some m) (nI p) S = some (a_pic v p, S) := by
  have hnn : v 12 0 = nI n := by rw [hk]; exact hI.in_.1
  unfold m_X5_conflicts a_pic
  rw [← hk]
  refine lpF n (fun i => (fo (fun q m => if hb (a_conf v q) (nI p) then m ||| mb q else m) i (nI 0), nI i, S)) _ rfl (fun i hi => ?_) ?_
  · simp (disch := omega) only [st_X5_conflicts_4, o_conf h hc hn hp hi hI.s1.1 hI.s1.2, hnn, or_0, z_0, z_1, z_2, z_3, z_4, z_5, z_6, z_7, z_8, z_9, z_10, z_12, z_13, z_15, z_17, z_20, z_25, z_31, z_33, z_41, z_49, z_57, z_60, z_72, z_100, z_161, z_255, z_256, z_999, z_9999, of_n, nI_add, pk_mul, n_le, n_lt, n_eq, n_cl, ck_n, ck_d, ck_tr, le_t, bd_t, ir_t, bt_r, bt_l, b_t, b_f, b_lt, b_lf, b_ef, z_m1, b_i0, b_i1, z_not, z_ps, f_mb, f_rf, ↓reduceIte, Nat.zero_add, Nat.add_zero, Nat.one_mul, Nat.mul_one, Nat.zero_mul, Nat.mul_zero, not_true_eq_false, not_false_eq_true, h.mm, h.s, h.ns, h.k, h.nk, h.t, h.nt, h.y, h.ny, hc.t, hc.p0, hc.p1, hc.p2, hc.p3, hc.p4, hc.q0, hc.q1, hc.q2, hc.q3, hc.q4, hc.c0, hc.c1, hc.c2, hc.c3, hc.i.1, hc.i.2.1, hc.i.2.2.1, hc.i.2.2.2.1, hc.i.2.2.2.2, hc.sc hn, nar_b, fo]
    repeat' (split <;> rename_i hc <;> (try simp only [hc, ↓reduceIte, not_false_eq_true, Bool.false_eq_true, decide_true, decide_false, Bool.not_true, Bool.not_false, Bool.false_and, Bool.true_and]) <;> try rfl)
  · simp (disch := omega) only [st_X5_conflicts_4, hnn, z_0, z_1, z_2, z_3, z_4, z_5, z_6, z_7, z_8, z_9, z_10, z_12, z_13, z_15, z_17, z_20, z_25, z_31, z_33, z_41, z_49, z_57, z_60, z_72, z_100, z_161, z_255, z_256, z_999, z_9999, of_n, nI_add, pk_mul, n_le, n_lt, n_eq, n_cl, ck_n, ck_d, ck_tr, le_t, bd_t, ir_t, bt_r, bt_l, b_t, b_f, b_lt, b_lf, b_ef, z_m1, b_i0, b_i1, z_not, z_ps, f_mb, f_rf, ↓reduceIte, Nat.zero_add, Nat.add_zero, Nat.one_mul, Nat.mul_one, Nat.zero_mul, Nat.mul_zero, not_true_eq_false, not_false_eq_true, h.mm, h.s, h.ns, h.k, h.nk, h.t, h.nt, h.y, h.ny, hc.t, hc.p0, hc.p1, hc.p2, hc.p3, hc.p4, hc.q0, hc.q1, hc.q2, hc.q3, hc.q4, hc.c0, hc.c1, hc.c2, hc.c3, hc.i.1, hc.i.2.1, hc.i.2.2.1, hc.i.2.2.2.1, hc.i.2.2.2.2, hc.sc hn, nar_b]
theorem o_person (h : RM S G m) (hc : cr (p_I S (rf S m 1)) 0 n v) (hn : n ≤ 8) (hI : IV v) (hk : n = a_n v) {p w : Nat} (hp : p < 8) (hw : w < 9) : m_X5_ofPerson (some m) (nI p) (nI w) S = some (a_per v p w, S) := by
  rcases (show w = 0 ∨ w = 1 ∨ w = 2 ∨ w = 3 ∨ w = 4 ∨ w = 5 ∨ w = 6 ∨ w = 7 ∨ w = 8 by omega) with rfl | rfl | rfl | rfl | rfl | rfl | rfl | rfl | rfl <;>
    simp (disch := omega) only [m_X5_ofPerson, j_X5_ofPerson_90, o_load h hc hn hI hk hp, o_wrt h hc hn hI hk hp, o_pic h hc hn hI hk hp, z_0, z_1, z_2, z_3, z_4, z_5, z_6, z_7, z_8, z_9, z_10, z_12, z_13, z_15, z_17, z_20, z_25, z_31, z_33, z_41, z_49, z_57, z_60, z_72, z_100, z_161, z_255, z_256, z_999, z_9999, of_n, nI_add, pk_mul, n_le, n_lt, n_eq, n_cl, ck_n, ck_d, ck_tr, le_t, bd_t, ir_t, bt_r, bt_l, b_t, b_f, b_lt, b_lf, b_ef, z_m1, b_i0, b_i1, z_not, z_ps, f_mb, f_rf, ↓reduceIte, Nat.zero_add, Nat.add_zero, Nat.one_mul, Nat.mul_one, Nat.zero_mul, Nat.mul_zero, not_true_eq_false, not_false_eq_true, h.mm, h.s, h.ns, h.k, h.nk, h.t, h.nt, h.y, h.ny, hc.t, hc.p0, hc.p1, hc.p2, hc.p3, hc.p4, hc.q0, hc.q1, hc.q2, hc.q3, hc.q4, hc.c0, hc.c1, hc.c2, hc.c3, hc.i.1, hc.i.2.1, hc.i.2.2.1, hc.i.2.2.2.1, hc.i.2.2.2.2, hc.sc hn, nar_b, a_per]
theorem o_sumAt (h : RM S G m) {k : Nat} (hk : k < 1000) : m_X5_sum (some m) (nI k) S = some (fo (fun i a => a + p_I S (rf S m 1) (k + i)) 8 (nI 0), S) := by
  unfold m_X5_sum
  refine lpF 8 (fun i => (fo (fun i a => a + p_I S (rf S m 1) (k + i)) i (nI 0), nI i, S)) _ rfl (fun i hi => ?_) ?_
  · simp (disch := omega) only [st_X5_sum_4, h.mm, h.s, h.ns, z_0, z_1, z_2, z_3, z_4, z_5, z_6, z_7, z_8, z_9, z_10, z_12, z_13, z_15, z_17, z_20, z_25, z_31, z_33, z_41, z_49, z_57, z_60, z_72, z_100, z_161, z_255, z_256, z_999, z_9999, of_n, nI_add, pk_mul, n_le, n_lt, n_eq, n_cl, ck_n, ck_d, ck_tr, le_t, bd_t, ir_t, bt_r, bt_l, b_t, b_f, b_lt, b_lf, b_ef, z_m1, b_i0, b_i1, z_not, z_ps, f_mb, f_rf, ↓reduceIte, Nat.zero_add, Nat.add_zero, Nat.one_mul, Nat.mul_one, Nat.zero_mul, Nat.mul_zero, not_true_eq_false, not_false_eq_true, fo]
  · simp (disch := omega) only [st_X5_sum_4, z_0, z_1, z_2, z_3, z_4, z_5, z_6, z_7, z_8, z_9, z_10, z_12, z_13, z_15, z_17, z_20, z_25, z_31, z_33, z_41, z_49, z_57, z_60, z_72, z_100, z_161, z_255, z_256, z_999, z_9999, of_n, nI_add, pk_mul, n_le, n_lt, n_eq, n_cl, ck_n, ck_d, ck_tr, le_t, bd_t, ir_t, bt_r, bt_l, b_t, b_f, b_lt, b_lf, b_ef, z_m1, b_i0, b_i1, z_not, z_ps, f_mb, f_rf, ↓reduceIte, Nat.zero_add, Nat.add_zero, Nat.one_mul, Nat.mul_one, Nat.zero_mul, Nat.mul_zero, not_true_eq_false, not_false_eq_true]
theorem o_spent (h : RM S G m) (hc : cr (p_I S (rf S m 1)) 0 n v) : m_X5_sum (some m) (nI 41) S = some (a_spent v, S) := by
  rw [o_sumAt h (by omega)]
  have e : fo (fun i a => a + p_I S (rf S m 1) (41 + i)) 8 (nI 0) = a_spent v := fo_congr (fun i b hi => by rw [hc.p3 hi])
  rw [e]
theorem o_tokens (h : RM S G m) (hc : cr (p_I S (rf S m 1)) 0 n v) : m_X5_sum (some m) (nI 9) S = some (a_tokens v, S) := by
  rw [o_sumAt h (by omega)]
  have e : fo (fun i a => a + p_I S (rf S m 1) (9 + i)) 8 (nI 0) = a_tokens v := fo_congr (fun i b hi => by rw [hc.t hi])
  rw [e]
theorem rev_ab (hI : IV v) {q : Nat} (h1 : a_n v ≤ q) (hq : q < 8) : a_bc (a_rev (v (20 + q))) = nI 0 := by
  rw [rev_bc, cnt_0 (fun i hi => ?_)]
  unfold rw_
  rw [decide_eq_true ((hI.ab h1 hq).1 i hi)]
  rfl
theorem wri_ab (hI : IV v) {q : Nat} (h1 : a_n v ≤ q) (hq : q < 8) : a_bc (a_wri (v (20 + q))) = nI 0 := by
  rw [wri_bc, cnt_0 (fun i hi => ?_)]
  unfold sc
  rw [(hI.ab h1 hq).1 i hi]
  exact isS_nM
theorem o_revs (h : RM S G m) (hc : cr (p_I S (rf S m 1)) 0 n v) (hn : n ≤ 8) (hI : IV v) (hk : n = a_n v) : m_X5_overPapers (some m) (nI 6) S = some (a_revs v, S) := by
  have hnn : v 12 0 = nI n := by rw [hk]; exact hI.in_.1
  have e : a_revs v = fo (fun q a => a + a_bc (a_rev (v (20 + q)))) n (nI 0) := fo_ext hn (fun i b h1 h2 => by rw [rev_ab hI (by omega) h2, add_0])
  rw [e]
  unfold m_X5_overPapers
  refine lpF n (fun i => (fo (fun q a => a + a_bc (a_rev (v (20 + q)))) i (nI 0), nI i, S)) _ rfl (fun i hi => ?_) ?_
  · simp (disch := omega) only [st_X5_overPapers_4, j_X5_overPapers_52, o_rev h hc hn hi, o_ones, rev_on, hnn, z_0, z_1, z_2, z_3, z_4, z_5, z_6, z_7, z_8, z_9, z_10, z_12, z_13, z_15, z_17, z_20, z_25, z_31, z_33, z_41, z_49, z_57, z_60, z_72, z_100, z_161, z_255, z_256, z_999, z_9999, of_n, nI_add, pk_mul, n_le, n_lt, n_eq, n_cl, ck_n, ck_d, ck_tr, le_t, bd_t, ir_t, bt_r, bt_l, b_t, b_f, b_lt, b_lf, b_ef, z_m1, b_i0, b_i1, z_not, z_ps, f_mb, f_rf, ↓reduceIte, Nat.zero_add, Nat.add_zero, Nat.one_mul, Nat.mul_one, Nat.zero_mul, Nat.mul_zero, not_true_eq_false, not_false_eq_true, h.mm, h.s, h.ns, h.k, h.nk, h.t, h.nt, h.y, h.ny, hc.t, hc.p0, hc.p1, hc.p2, hc.p3, hc.p4, hc.q0, hc.q1, hc.q2, hc.q3, hc.q4, hc.c0, hc.c1, hc.c2, hc.c3, hc.i.1, hc.i.2.1, hc.i.2.2.1, hc.i.2.2.2.1, hc.i.2.2.2.2, hc.sc hn, nar_b, fo]
  · simp (disch := omega) only [st_X5_overPapers_4, hnn, z_0, z_1, z_2, z_3, z_4, z_5, z_6, z_7, z_8, z_9, z_10, z_12, z_13, z_15, z_17, z_20, z_25, z_31, z_33, z_41, z_49, z_57, z_60, z_72, z_100, z_161, z_255, z_256, z_999, z_9999, of_n, nI_add, pk_mul, n_le, n_lt, n_eq, n_cl, ck_n, ck_d, ck_tr, le_t, bd_t, ir_t, bt_r, bt_l, b_t, b_f, b_lt, b_lf, b_ef, z_m1, b_i0, b_i1, z_not, z_ps, f_mb, f_rf, ↓reduceIte, Nat.zero_add, Nat.add_zero, Nat.one_mul, Nat.mul_one, Nat.zero_mul, Nat.mul_zero, not_true_eq_false, not_false_eq_true, h.mm, h.s, h.ns, h.k, h.nk, h.t, h.nt, h.y, h.ny, hc.t, hc.p0, hc.p1, hc.p2, hc.p3, hc.p4, hc.q0, hc.q1, hc.q2, hc.q3, hc.q4, hc.c0, hc.c1, hc.c2, hc.c3, hc.i.1, hc.i.2.1, hc.i.2.2.1, hc.i.2.2.2.1, hc.i.2.2.2.2, hc.sc hn, nar_b]
theorem o_wrts (h : RM S G m) (hc : cr (p_I S (rf S m 1)) 0 n v) (hn : n ≤ 8) (hI : IV v) (hk : n = a_n v) : m_X5_overPapers (some m) (nI 7) S = some (a_wrts v, S) := by
  have hnn : v 12 0 = nI n := by rw [hk]; exact hI.in_.1
  have e : a_wrts v = fo (fun q a => a + a_bc (a_wri (v (20 + q)))) n (nI 0) := fo_ext hn (fun i b h1 h2 => by rw [wri_ab hI (by omega) h2, add_0])
  rw [e]
  unfold m_X5_overPapers
  refine lpF n (fun i => (fo (fun q a => a + a_bc (a_wri (v (20 + q)))) i (nI 0), nI i, S)) _ rfl (fun i hi => ?_) ?_
  · simp (disch := omega) only [st_X5_overPapers_4, j_X5_overPapers_52, o_wri h hc hn hi, o_ones, wri_on, hnn, z_0, z_1, z_2, z_3, z_4, z_5, z_6, z_7, z_8, z_9, z_10, z_12, z_13, z_15, z_17, z_20, z_25, z_31, z_33, z_41, z_49, z_57, z_60, z_72, z_100, z_161, z_255, z_256, z_999, z_9999, of_n, nI_add, pk_mul, n_le, n_lt, n_eq, n_cl, ck_n, ck_d, ck_tr, le_t, bd_t, ir_t, bt_r, bt_l, b_t, b_f, b_lt, b_lf, b_ef, z_m1, b_i0, b_i1, z_not, z_ps, f_mb, f_rf, ↓reduceIte, Nat.zero_add, Nat.add_zero, Nat.one_mul, Nat.mul_one, Nat.zero_mul, Nat.mul_zero, not_true_eq_false, not_false_eq_true, h.mm, h.s, h.ns, h.k, h.nk, h.t, h.nt, h.y, h.ny, hc.t, hc.p0, hc.p1, hc.p2, hc.p3, hc.p4, hc.q0, hc.q1, hc.q2, hc.q3, hc.q4, hc.c0, hc.c1, hc.c2, hc.c3, hc.i.1, hc.i.2.1, hc.i.2.2.1, hc.i.2.2.2.1, hc.i.2.2.2.2, hc.sc hn, nar_b, fo]
  · simp (disch := omega) only [st_X5_overPapers_4, hnn, z_0, z_1, z_2, z_3, z_4, z_5, z_6, z_7, z_8, z_9, z_10, z_12, z_13, z_15, z_17, z_20, z_25, z_31, z_33, z_41, z_49, z_57, z_60, z_72, z_100, z_161, z_255, z_256, z_999, z_9999, of_n, nI_add, pk_mul, n_le, n_lt, n_eq, n_cl, ck_n, ck_d, ck_tr, le_t, bd_t, ir_t, bt_r, bt_l, b_t, b_f, b_lt, b_lf, b_ef, z_m1, b_i0, b_i1, z_not, z_ps, f_mb, f_rf, ↓reduceIte, Nat.zero_add, Nat.add_zero, Nat.one_mul, Nat.mul_one, Nat.zero_mul, Nat.mul_zero, not_true_eq_false, not_false_eq_true, h.mm, h.s, h.ns, h.k, h.nk, h.t, h.nt, h.y, h.ny, hc.t, hc.p0, hc.p1, hc.p2, hc.p3, hc.p4, hc.q0, hc.q1, hc.q2, hc.q3, hc.q4, hc.c0, hc.c1, hc.c2, hc.c3, hc.i.1, hc.i.2.1, hc.i.2.2.1, hc.i.2.2.2.1, hc.i.2.2.2.2, hc.sc hn, nar_b]
theorem o_decd (h : RM S G m) (hc : cr (p_I S (rf S m 1)) 0 n v) (hn : n ≤ 8) (hI : IV v) (hk : n = a_n v) : m_X5_overPapers (some m) (nI 8) S = some (a_decd v, S) := by
  have hnn : v 12 0 = nI n := by rw [hk]; exact hI.in_.1
  have e : a_decd v = fo (fun q n => if v 9 q = nI 0 then n else n + nI 1) n (nI 0) := fo_ext hn (fun i b h1 h2 => by rw [if_pos (hI.ab (by omega) h2).2.2.2])
  rw [e]
  unfold m_X5_overPapers
  refine lpF n (fun i => (fo (fun q n => if v 9 q = nI 0 then n else n + nI 1) i (nI 0), nI i, S)) _ rfl (fun i hi => ?_) ?_
  · have hd := hI.de (show i < 8 by omega)
    simp (disch := omega) only [st_X5_overPapers_4, o_of h, hnn, add_0, z_0, z_1, z_2, z_3, z_4, z_5, z_6, z_7, z_8, z_9, z_10, z_12, z_13, z_15, z_17, z_20, z_25, z_31, z_33, z_41, z_49, z_57, z_60, z_72, z_100, z_161, z_255, z_256, z_999, z_9999, of_n, nI_add, pk_mul, n_le, n_lt, n_eq, n_cl, ck_n, ck_d, ck_tr, le_t, bd_t, ir_t, bt_r, bt_l, b_t, b_f, b_lt, b_lf, b_ef, z_m1, b_i0, b_i1, z_not, z_ps, f_mb, f_rf, ↓reduceIte, Nat.zero_add, Nat.add_zero, Nat.one_mul, Nat.mul_one, Nat.zero_mul, Nat.mul_zero, not_true_eq_false, not_false_eq_true, h.mm, h.s, h.ns, h.k, h.nk, h.t, h.nt, h.y, h.ny, hc.t, hc.p0, hc.p1, hc.p2, hc.p3, hc.p4, hc.q0, hc.q1, hc.q2, hc.q3, hc.q4, hc.c0, hc.c1, hc.c2, hc.c3, hc.i.1, hc.i.2.1, hc.i.2.2.1, hc.i.2.2.2.1, hc.i.2.2.2.2, hc.sc hn, nar_b, fo]
    rw [hd.1]
    simp (disch := omega) only [z_0, z_1, z_2, z_3, z_4, z_5, z_6, z_7, z_8, z_9, z_10, z_12, z_13, z_15, z_17, z_20, z_25, z_31, z_33, z_41, z_49, z_57, z_60, z_72, z_100, z_161, z_255, z_256, z_999, z_9999, of_n, nI_add, pk_mul, n_le, n_lt, n_eq, n_cl, ck_n, ck_d, ck_tr, le_t, bd_t, ir_t, bt_r, bt_l, b_t, b_f, b_lt, b_lf, b_ef, z_m1, b_i0, b_i1, z_not, z_ps, f_mb, f_rf, ↓reduceIte, Nat.zero_add, Nat.add_zero, Nat.one_mul, Nat.mul_one, Nat.zero_mul, Nat.mul_zero, not_true_eq_false, not_false_eq_true]
    rcases Nat.eq_zero_or_pos (nv v 9 i) with g | g
    · rw [g]; rfl
    · rw [if_neg (by omega), if_neg (by omega)]
  · simp (disch := omega) only [st_X5_overPapers_4, hnn, z_0, z_1, z_2, z_3, z_4, z_5, z_6, z_7, z_8, z_9, z_10, z_12, z_13, z_15, z_17, z_20, z_25, z_31, z_33, z_41, z_49, z_57, z_60, z_72, z_100, z_161, z_255, z_256, z_999, z_9999, of_n, nI_add, pk_mul, n_le, n_lt, n_eq, n_cl, ck_n, ck_d, ck_tr, le_t, bd_t, ir_t, bt_r, bt_l, b_t, b_f, b_lt, b_lf, b_ef, z_m1, b_i0, b_i1, z_not, z_ps, f_mb, f_rf, ↓reduceIte, Nat.zero_add, Nat.add_zero, Nat.one_mul, Nat.mul_one, Nat.zero_mul, Nat.mul_zero, not_true_eq_false, not_false_eq_true, h.mm, h.s, h.ns, h.k, h.nk, h.t, h.nt, h.y, h.ny, hc.t, hc.p0, hc.p1, hc.p2, hc.p3, hc.p4, hc.q0, hc.q1, hc.q2, hc.q3, hc.q4, hc.c0, hc.c1, hc.c2, hc.c3, hc.i.1, hc.i.2.1, hc.i.2.2.1, hc.i.2.2.2.1, hc.i.2.2.2.2, hc.sc hn, nar_b]
end MO
