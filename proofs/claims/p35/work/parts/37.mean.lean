/-! THE CLASS: rounds until all agree; means and their bits -/
def a_itr (r : Nat → Int32) : Nat → Nat → Int32
  | 0 => r
  | n + 1 => a_bnr (a_itr r n)
def a_rd (r : Nat → Int32) : Nat → Nat → Int32 × Nat
  | 0, i => (nM, i)
  | n + 1, i => if nI 1 < a_spr (a_itr r i) then a_rd r n (i + 1) else (nI i, i)
section CL
variable {S : PH} {G : Nat → Nat} {x nw : Nat} {v : AS}
theorem p_rounds (h : RC S G x nw) (hr : rep S nw v) {q : Nat} (hq : q < 8) (hj : ∀ k, 8 ≤ k → v (20 + q) k = 0) (ht : ∀ k, 8 ≤ k → p_I S (rf S x 5) k = 0) : m_X4_roundsFor (some x) (nI q) S = some ((a_rd (v (20 + q)) 21 0).1, s_W S (rf S x 5) (a_itr (v (20 + q)) (a_rd (v (20 + q)) 21 0).2)) := by
  have hc : va_cpy (v (20 + q)) (p_I S (rf S x 5)) 0 0 8 = v (20 + q) := by
    funext k
    unfold va_cpy
    split
    · rw [Nat.zero_add, Nat.sub_zero]
    · rw [ht k (by omega), hj k (by omega)]
  have hsp : ∀ g, m_X4_spreadIn (p_R S x 5) (s_W S (rf S x 5) g) = some (a_spr g, s_W S (rf S x 5) g) := fun g => by
    have e := p_spreadIn (S := s_W S (rf S x 5) g) (r := p_R S x 5) h.talk
    rw [show (p_R S x 5).getD 0 = rf S x 5 from rfl, I_W] at e
    exact e
  have hbn : ∀ g, m_X4_bringNearer (p_R S x 5) (s_W S (rf S x 5) g) = some (a_bnn g, s_W S (rf S x 5) (a_bnr g)) := fun g => p_bringNearer (S := S) (r := p_R S x 5) h.talk
  have key : lp (st_X4_roundsFor_22 (some x) (nI q)) (nI 0, s_W S (rf S x 5) (v (20 + q))) = some ((a_rd (v (20 + q)) 21 0).1, s_W S (rf S x 5) (a_itr (v (20 + q)) (a_rd (v (20 + q)) 21 0).2)) := by
    refine lpG 21 (fun i => (nI i, s_W S (rf S x 5) (a_itr (v (20 + q)) i))) (fun i => ((a_rd (v (20 + q)) (21 - i) i).1, s_W S (rf S x 5) (a_itr (v (20 + q)) (a_rd (v (20 + q)) (21 - i) i).2))) rfl (fun i hi => ?_) ?_
    · have e : a_rd (v (20 + q)) (21 - i) i = (if nI 1 < a_spr (a_itr (v (20 + q)) i) then a_rd (v (20 + q)) (21 - (i + 1)) (i + 1) else (nI i, i)) := by
        rw [show 21 - i = (21 - (i + 1)) + 1 by omega]
        rfl
      by_cases g : nI 1 < a_spr (a_itr (v (20 + q)) i)
      · right
        simp (disch := omega) only [st_X4_roundsFor_22, dr_W, R_W, h.x4, hsp, hbn, z_0, z_1, z_2, z_3, z_4, z_5, z_6, z_7, z_8, z_9, z_10, z_12, z_13, z_15, z_17, z_20, z_25, z_31, z_33, z_41, z_49, z_57, z_60, z_72, z_100, z_161, z_255, z_256, z_999, z_9999, of_n, nI_add, pk_mul, n_le, n_lt, n_eq, n_cl, ck_n, ck_d, ck_tr, le_t, bd_t, ir_t, bt_r, bt_l, b_t, b_f, b_lt, b_lf, b_ef, z_m1, b_i0, b_i1, z_not, z_ps, f_mb, f_rf, ↓reduceIte, Nat.zero_add, Nat.add_zero, Nat.one_mul, Nat.mul_one, Nat.zero_mul, Nat.mul_zero, not_true_eq_false, not_false_eq_true, e, g, a_itr, and_self]
      · left
        simp (disch := omega) only [st_X4_roundsFor_22, dr_W, R_W, h.x4, hsp, hbn, z_0, z_1, z_2, z_3, z_4, z_5, z_6, z_7, z_8, z_9, z_10, z_12, z_13, z_15, z_17, z_20, z_25, z_31, z_33, z_41, z_49, z_57, z_60, z_72, z_100, z_161, z_255, z_256, z_999, z_9999, of_n, nI_add, pk_mul, n_le, n_lt, n_eq, n_cl, ck_n, ck_d, ck_tr, le_t, bd_t, ir_t, bt_r, bt_l, b_t, b_f, b_lt, b_lf, b_ef, z_m1, b_i0, b_i1, z_not, z_ps, f_mb, f_rf, ↓reduceIte, Nat.zero_add, Nat.add_zero, Nat.one_mul, Nat.mul_one, Nat.zero_mul, Nat.mul_zero, not_true_eq_false, not_false_eq_true, e, g]
    · simp (disch := omega) only [st_X4_roundsFor_22, dr_W, R_W, h.x4, hsp, hbn, z_0, z_1, z_2, z_3, z_4, z_5, z_6, z_7, z_8, z_9, z_10, z_12, z_13, z_15, z_17, z_20, z_25, z_31, z_33, z_41, z_49, z_57, z_60, z_72, z_100, z_161, z_255, z_256, z_999, z_9999, of_n, nI_add, pk_mul, n_le, n_lt, n_eq, n_cl, ck_n, ck_d, ck_tr, le_t, bd_t, ir_t, bt_r, bt_l, b_t, b_f, b_lt, b_lf, b_ef, z_m1, b_i0, b_i1, z_not, z_ps, f_mb, f_rf, ↓reduceIte, Nat.zero_add, Nat.add_zero, Nat.one_mul, Nat.mul_one, Nat.zero_mul, Nat.mul_zero, not_true_eq_false, not_false_eq_true, a_rd, Nat.sub_self]
  have hn5 : p_N S (rf S x 5) = 8 := h.talk.2.2
  simp (disch := omega) only [m_X4_roundsFor, h.talk.d, hn5, z_0, z_1, z_2, z_3, z_4, z_5, z_6, z_7, z_8, z_9, z_10, z_12, z_13, z_15, z_17, z_20, z_25, z_31, z_33, z_41, z_49, z_57, z_60, z_72, z_100, z_161, z_255, z_256, z_999, z_9999, of_n, nI_add, pk_mul, n_le, n_lt, n_eq, n_cl, ck_n, ck_d, ck_tr, le_t, bd_t, ir_t, bt_r, bt_l, b_t, b_f, b_lt, b_lf, b_ef, z_m1, b_i0, b_i1, z_not, z_ps, f_mb, f_rf, ↓reduceIte, Nat.zero_add, Nat.add_zero, Nat.one_mul, Nat.mul_one, Nat.zero_mul, Nat.mul_zero, not_true_eq_false, not_false_eq_true, h.x4, h.r0, h.now, h.st.d 0 (by decide), h.st.n 0 (by decide), h.st.d 1 (by decide), h.st.n 1 (by decide), h.st.d 2 (by decide), h.st.n 2 (by decide), h.st.d 3 (by decide), h.st.n 3 (by decide), h.st.d 4 (by decide), h.st.n 4 (by decide), h.st.d 5 (by decide), h.st.n 5 (by decide), h.st.d 6 (by decide), h.st.n 6 (by decide), h.st.d 7 (by decide), h.st.n 7 (by decide), h.st.d 8 (by decide), h.st.n 8 (by decide), h.st.d 9 (by decide), h.st.n 9 (by decide), h.st.d11, h.st.n11, h.st.ds, h.st.ns, h.st.dw, h.st.nw, h.r3, h.tx, h.cd, h.ncd, h.r4, h.mt, h.ma 0 (by decide), h.nma 0 (by decide), h.ma 1 (by decide), h.nma 1 (by decide), h.ma 2 (by decide), h.nma 2 (by decide), h.ma 3 (by decide), h.nma 3 (by decide), h.ma 4 (by decide), h.nma 4 (by decide), h.ma 5 (by decide), h.nma 5 (by decide), h.ma 6 (by decide), h.nma 6 (by decide), h.ma 7 (by decide), h.nma 7 (by decide), hr.f 0 (by decide), hr.f 1 (by decide), hr.f 2 (by decide), hr.f 3 (by decide), hr.f 4 (by decide), hr.f 5 (by decide), hr.f 6 (by decide), hr.f 7 (by decide), hr.f 8 (by decide), hr.f 9 (by decide), hr.f11, hr.w, hr.i 12 (by decide) (by decide), hr.i 13 (by decide) (by decide), hr.i 14 (by decide) (by decide), hr.i 15 (by decide) (by decide), hr.i 16 (by decide) (by decide), hc, key]
def a_mean (r : Nat → Int32) : UInt64 := if a_bc (a_wri r) ≤ nI 0 then 13830554455654793216 else FP.ddiv (FP.i2d (a_sum r)) (FP.i2d (a_bc (a_wri r)))
theorem nn_mean : ∀ a, a < 73 → ∀ b, b < 8 → nn64 (FP.ddiv (FP.i2d (nI a)) (FP.i2d (nI (b + 1)))) = true := by decide +kernel
end CL
