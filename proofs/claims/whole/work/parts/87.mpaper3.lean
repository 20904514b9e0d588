/-! THE REFERENCE'S FACE: paper -/
section MX
variable {S : PH} {G : Nat → Nat} {m : Nat} {u v : AS} {hs : List AS} {sl : Nat → Option AS} {tn : Nat} {tx : Nat → Int32}
theorem q_paper (hg : Gi G) (h : RM S G m) (hI : IV v) (hu : MU u v hs sl tn tx) (i j : Int32) : ∃ u', RES (m_X5_paper (some m) i j (mput S G u)) S G (fun e => if e = 0 then nI 1 else nI 2) u' (f_paper v i j).1 ∧ MUO u' v hs sl tn tx (f_paper v i j).2 := by
  obtain ⟨en, hn⟩ := hI.in_
  have l12 : lo 12 0 = 8 := rfl
  have bad : ∀ c, ¬ c = nI 0 → j_X5_paper_42 (some m) i j (some m) c (mput S G u) = some (nI 0, mput S G (u_2 u 0 0 c)) := by
    intro c hc
    unfold j_X5_paper_42
    rw [dr_mp, h.mm, (q_no hg h hu hc).1, bd_t, if_pos (show nI 0 = 0 from rfl)]
    rfl
  unfold m_X5_paper f_paper
  rw [show ((0 : Int32)) = nI 0 from rfl, show (3 : Int32) = nI 3 from rfl, o_in, bd_t]
  by_cases h1 : a_in i (nI 0) (nI 3) = true
  · rw [if_pos h1, if_pos h1, if_neg (show ¬ nI 1 = nI 0 by decide), show ((1 : Int32)) = nI 1 from rfl, show (255 : Int32) = nI 255 from rfl, o_in, bd_t]
    by_cases h2 : a_in j (nI 1) (nI 255) = true
    · have x8 := MU_at hu (f := 12) (p := 0) (k := 8) (by unfold vd; omega) (by omega) l12
      rw [if_pos h2, if_pos h2, if_neg (show ¬ nI 1 = nI 0 by decide), dr_mp, h.mm, R_mp, dr_mp, h.s, N_mp, h.ns, show ((8 : Int32)) = nI 8 from rfl, ck_n (by omega) (by omega), mg_1 h, x8, en]
      by_cases h3 : a_n v < 8
      · rw [if_pos h3, if_neg (show ¬ nI (a_n v) = nI 8 from fun z => by have := (nI_eq (show a_n v < 2147483648 by omega) (show 8 < 2147483648 by omega)).mp z; omega)]
        obtain ⟨e1, u1, e2, e3, e4⟩ := q_yes hg h hn hu
        have y8 := (MU_at e3 (f := 12) (p := 0) (k := 8) (by unfold vd; omega) (by omega) l12).trans en
        have c1 := npa_cr (i := i) (j := j) hI rfl h3 e3.1
        have an : a_n (a_pa v i j) = a_n v + 1 := by
          show (u_2 (u_2 (u_2 v 5 (a_n v) i) 6 (a_n v) j) 12 0 (nI (a_n v + 1)) 12 0).toNatClampNeg = _
          rw [u_s, n_cl (by omega)]
        have np : ∀ f, f ≠ 1 → npa u1 (a_n v) i j 8 f = u1 f := fun f hf => by unfold npa; rw [ur_ne hf]
        have np8 : npa u1 (a_n v) i j 8 1 8 = nI (a_n v) := by
          unfold npa
          rw [ur_s]
          show (if 57 + 13 * a_n v ≤ 8 ∧ 8 < 57 + 13 * a_n v + 5 + 8 then _ else u1 1 8) = _
          rw [if_neg (by omega)]
          exact y8
        have m1 : MU (u_2 (npa u1 (a_n v) i j 8) 1 8 (nI (a_n v + 1))) (a_pa v i j) ((v :: hs).take 6) sl tn tx := MU_s1 e3 ⟨fun f hf => by rw [u_ne hf, np f hf], fun k hk => by
          rw [u_k (by omega)]
          unfold npa
          rw [ur_s]
          show (if 57 + 13 * a_n v ≤ k ∧ k < 57 + 13 * a_n v + 5 + 8 then _ else u1 1 k) = _
          rw [if_neg (by omega)]⟩ (by rw [an]; exact c1)
        have loop : lp (st_X5_paper_100 (some m) i j) (nI (a_n v), nI 0, mput S G (npa u1 (a_n v) i j 0)) = some (nI (a_n v), mput S G (u_2 (npa u1 (a_n v) i j 8) 1 8 (nI (a_n v + 1)))) := by
          refine lpF 8 (fun k => (nI (a_n v), nI k, mput S G (npa u1 (a_n v) i j k))) _ rfl (fun k hk => ?_) ?_
          · have ly := o_lay (u := npa u1 (a_n v) i j k) hg h (q := a_n v) (w := 5 + k) (by omega) (by omega) nM
            rw [npa_s] at ly
            simp (disch := omega) only [st_X5_paper_100, dr_mp, h.mm, z_0, z_1, z_2, z_3, z_4, z_5, z_6, z_7, z_8, z_9, z_10, z_12, z_13, z_15, z_17, z_20, z_25, z_31, z_33, z_41, z_49, z_57, z_60, z_72, z_100, z_161, z_255, z_256, z_999, z_9999, of_n, nI_add, pk_mul, n_le, n_lt, n_eq, n_cl, ck_n, ck_d, ck_tr, le_t, bd_t, ir_t, bt_r, bt_l, b_t, b_f, b_lt, b_lf, b_ef, z_m1, b_i0, b_i1, z_not, z_ps, f_mb, f_rf, ↓reduceIte, Nat.zero_add, Nat.add_zero, Nat.one_mul, Nat.mul_one, Nat.zero_mul, Nat.mul_zero, not_true_eq_false, not_false_eq_true, ly]
          · simp (disch := omega) only [st_X5_paper_100, dr_mp, N_mp, R_mp, rf_mp, h.mm, h.s, h.ns, mg_1 h, ms_1 hg h, np8, z_0, z_1, z_2, z_3, z_4, z_5, z_6, z_7, z_8, z_9, z_10, z_12, z_13, z_15, z_17, z_20, z_25, z_31, z_33, z_41, z_49, z_57, z_60, z_72, z_100, z_161, z_255, z_256, z_999, z_9999, of_n, nI_add, pk_mul, n_le, n_lt, n_eq, n_cl, ck_n, ck_d, ck_tr, le_t, bd_t, ir_t, bt_r, bt_l, b_t, b_f, b_lt, b_lf, b_ef, z_m1, b_i0, b_i1, z_not, z_ps, f_mb, f_rf, ↓reduceIte, Nat.zero_add, Nat.add_zero, Nat.one_mul, Nat.mul_one, Nat.zero_mul, Nat.mul_zero, not_true_eq_false, not_false_eq_true]
        refine ⟨_, ⟨?_, by rw [u_ne (by omega), np 0 (by omega)]; exact e4⟩, m1⟩
        have ly := fun (z : AS) (w : Nat) (hw : w < 13) (y : Int32) => o_lay (u := z) hg h (q := a_n v) (w := w) (by omega) hw y
        simp (disch := omega) only [j_X5_paper_42, dr_mp, N_mp, R_mp, rf_mp, h.mm, h.s, h.ns, e1, e2, mg_1 h, y8, z_0, z_1, z_2, z_3, z_4, z_5, z_6, z_7, z_8, z_9, z_10, z_12, z_13, z_15, z_17, z_20, z_25, z_31, z_33, z_41, z_49, z_57, z_60, z_72, z_100, z_161, z_255, z_256, z_999, z_9999, of_n, nI_add, pk_mul, n_le, n_lt, n_eq, n_cl, ck_n, ck_d, ck_tr, le_t, bd_t, ir_t, bt_r, bt_l, b_t, b_f, b_lt, b_lf, b_ef, z_m1, b_i0, b_i1, z_not, z_ps, f_mb, f_rf, ↓reduceIte, Nat.zero_add, Nat.add_zero, Nat.one_mul, Nat.mul_one, Nat.zero_mul, Nat.mul_zero, not_true_eq_false, not_false_eq_true, ly _ 0, ly _ 1, ly _ 2, ly _ 3, ly _ 4, npa_0]
        have k0 := npa_0 (u := u1) (n := a_n v) (i := i) (j := j)
        rw [show 57 + 13 * a_n v + 0 = 57 + 13 * a_n v from rfl] at k0
        rw [k0]
        exact loop
      · rw [if_neg h3, if_pos (show nI (a_n v) = nI 8 by rw [show a_n v = 8 by omega])]
        exact ⟨_, ⟨bad (nI 2) (by decide), u_s⟩, MU_0 hu _⟩
    · rw [if_neg h2, if_neg h2, if_pos rfl]
      exact ⟨_, ⟨bad (nI 1) (by decide), u_s⟩, MU_0 hu _⟩
  · rw [if_neg h1, if_neg h1, if_pos rfl]
    exact ⟨_, ⟨bad (nI 1) (by decide), u_s⟩, MU_0 hu _⟩
end MX
