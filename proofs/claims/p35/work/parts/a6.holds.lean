/-! THE LAW'S ACCOUNTS HOLD: one paper -/
theorem or_0 (m : Int32) : m ||| nI 0 = m := Int32.or_zero
theorem add_0 (m : Int32) : m + nI 0 = m := Int32.add_zero m
theorem lt_M : (nM < nI 0) = True := eq_true (by decide)
theorem nk_M {k : Nat} (h : k < 2147483648) : (nI k = nM) = False := eq_false (nM_ne h)
section HO
variable {S : PH} {G : Nat → Nat} {x nw : Nat} {v : AS} {hs : List AS} {nx : Nat} {sl : Nat → Option AS} {tn : Nat} {tx : Nat → Int32} {q n : Nat} {a b c d e f : Int32}
theorem h_547 (h : RelC S G x nw v hs nx sl tn tx) (hI : IV v) (hn : v 12 0 = nI n) (h8 : n ≤ 8) (hq : q < n) : ∃ S', j_L_holds_547 (some x) a b c d e f (nI q) S = some (.inl (a, b, c, d, nI 1, e, f, nI (q + 1), S')) ∧ RelC S' G x nw v hs nx sl tn tx := by
  obtain ⟨S', e1, h'⟩ := g_rd h hI hn h8 hq
  refine ⟨S', ?_, h'⟩
  have r0 := rd_0 (v (20 + q)) 20 (by omega)
  generalize (a_rd (v (20 + q)) (20 + 1) 0).1 = R at e1 r0
  by_cases hs : nI 1 < a_spr (v (20 + q))
  · have r1 : ¬ R = nI 0 := fun z => (r0.mp z) hs
    simp (disch := omega) only [j_L_holds_547, j_L_holds_561, j_L_holds_577, h.rc.x4, h'.rc.x4, e1, g_pap h' hI hn h8 hq, a_pap, r1, hs, z_0, z_1, z_2, z_3, z_4, z_5, z_6, z_7, z_8, z_9, z_10, z_12, z_13, z_15, z_17, z_20, z_25, z_31, z_33, z_41, z_49, z_57, z_60, z_72, z_100, z_161, z_255, z_256, z_999, z_9999, of_n, nI_add, pk_mul, n_le, n_lt, n_eq, n_cl, ck_n, ck_d, ck_tr, le_t, bd_t, ir_t, bt_r, bt_l, b_t, b_f, b_lt, b_lf, b_ef, z_m1, b_i0, b_i1, z_not, z_ps, f_mb, f_rf, ↓reduceIte, Nat.zero_add, Nat.add_zero, Nat.one_mul, Nat.mul_one, Nat.zero_mul, Nat.mul_zero, not_true_eq_false, not_false_eq_true]
  · have r1 : R = nI 0 := r0.mpr hs
    simp (disch := omega) only [j_L_holds_547, j_L_holds_561, j_L_holds_577, h.rc.x4, h'.rc.x4, e1, g_pap h' hI hn h8 hq, a_pap, r1, hs, z_0, z_1, z_2, z_3, z_4, z_5, z_6, z_7, z_8, z_9, z_10, z_12, z_13, z_15, z_17, z_20, z_25, z_31, z_33, z_41, z_49, z_57, z_60, z_72, z_100, z_161, z_255, z_256, z_999, z_9999, of_n, nI_add, pk_mul, n_le, n_lt, n_eq, n_cl, ck_n, ck_d, ck_tr, le_t, bd_t, ir_t, bt_r, bt_l, b_t, b_f, b_lt, b_lf, b_ef, z_m1, b_i0, b_i1, z_not, z_ps, f_mb, f_rf, ↓reduceIte, Nat.zero_add, Nat.add_zero, Nat.one_mul, Nat.mul_one, Nat.zero_mul, Nat.mul_zero, not_true_eq_false, not_false_eq_true]
theorem mean_0 {r : Nat → Int32} (h : cnt (sc r) 8 = 0) : a_mean r = 13830554455654793216 := by
  unfold a_mean
  rw [wri_bc, h, if_pos (Int32.le_refl _)]
theorem mean_s {r : Nat → Int32} {k : Nat} (h : cnt (sc r) 8 = k + 1) : a_mean r = FP.ddiv (FP.i2d (a_sum r)) (FP.i2d (nI (k + 1))) := by
  have := cnt_le (sc r) 8
  unfold a_mean
  rw [wri_bc, h, if_neg (by rw [nI_leI (by omega) (by omega)]; omega)]
theorem h_484 (h : RelC S G x nw v hs nx sl tn tx) (hI : IV v) (hn : v 12 0 = nI n) (h8 : n ≤ 8) (hq : q < n) : ∃ S', j_L_holds_484 (some x) a b c d e f (nI q) (a_wri (v (20 + q))) (a_sum (v (20 + q))) (nI 1) S = some (.inl (a, b, c, d, nI 1, e, f, nI (q + 1), S')) ∧ RelC S' G x nw v hs nx sl tn tx := by
  obtain ⟨S', e1, h'⟩ := h_547 (a := a) (b := b) (c := c) (d := d) (e := e) (f := f) h hI hn h8 hq
  refine ⟨S', ?_, h'⟩
  rw [← e1]
  obtain ⟨_, ms, mc, ms2⟩ := mean_ab (v (20 + q))
  have gm := g_mean h hI hn h8 hq
  by_cases hk : cnt (sc (v (20 + q))) 8 = 0
  · have w0 : a_wri (v (20 + q)) = nI 0 := (wri_0 _).mpr hk
    have m1 : Op.cmpValue (FP.dcmp 13830554455654793216 13830554455654793216) .l = nI 0 := m1_m1
    rw [mean_0 hk] at gm
    simp (disch := omega) only [j_L_holds_484, j_L_holds_509, j_L_holds_519, h.rc.x4, gm, w0, m1, z_0, z_1, z_2, z_3, z_4, z_5, z_6, z_7, z_8, z_9, z_10, z_12, z_13, z_15, z_17, z_20, z_25, z_31, z_33, z_41, z_49, z_57, z_60, z_72, z_100, z_161, z_255, z_256, z_999, z_9999, of_n, nI_add, pk_mul, n_le, n_lt, n_eq, n_cl, ck_n, ck_d, ck_tr, le_t, bd_t, ir_t, bt_r, bt_l, b_t, b_f, b_lt, b_lf, b_ef, z_m1, b_i0, b_i1, z_not, z_ps, f_mb, f_rf, ↓reduceIte, Nat.zero_add, Nat.add_zero, Nat.one_mul, Nat.mul_one, Nat.zero_mul, Nat.mul_zero, not_true_eq_false, not_false_eq_true]
  · obtain ⟨k, hk1⟩ : ∃ k, cnt (sc (v (20 + q))) 8 = k + 1 := ⟨cnt (sc (v (20 + q))) 8 - 1, by omega⟩
    have w0 : ¬ a_wri (v (20 + q)) = nI 0 := fun z => hk ((wri_0 _).mp z)
    have on : a_ones (a_wri (v (20 + q))) = nI (k + 1) := by rw [wri_on, wri_bc, hk1]
    rw [mean_s hk1, ms] at gm
    rw [ms]
    have c1 : ¬ Op.cmpValue (FP.dcmp (FP.ddiv (FP.i2d (nI (sm (ns (v (20 + q))) 8))) (FP.i2d (nI (k + 1)))) 13830554455654793216) .l = nI 0 := mean_m1 _ ms2 k (by omega)
    have c2 : Op.cmpValue (FP.dcmp (FP.ddiv (FP.i2d (nI (sm (ns (v (20 + q))) 8))) (FP.i2d (nI (k + 1)))) (FP.ddiv (FP.i2d (nI (sm (ns (v (20 + q))) 8))) (FP.i2d (nI (k + 1))))) .l = nI 0 := mean_eq _ ms2 k (by omega)
    have c3 : nn64 (FP.ddiv (FP.i2d (nI (sm (ns (v (20 + q))) 8))) (FP.i2d (nI (k + 1)))) = true := nn_mean _ ms2 k (by omega)
    generalize sm (ns (v (20 + q))) 8 = s at gm c1 c2 c3 ⊢
    simp (disch := omega) only [j_L_holds_484, j_L_holds_509, j_L_holds_519, h.rc.x4, gm, w0, on, p_bits, c1, c2, ck_t c3, z_0, z_1, z_2, z_3, z_4, z_5, z_6, z_7, z_8, z_9, z_10, z_12, z_13, z_15, z_17, z_20, z_25, z_31, z_33, z_41, z_49, z_57, z_60, z_72, z_100, z_161, z_255, z_256, z_999, z_9999, of_n, nI_add, pk_mul, n_le, n_lt, n_eq, n_cl, ck_n, ck_d, ck_tr, le_t, bd_t, ir_t, bt_r, bt_l, b_t, b_f, b_lt, b_lf, b_ef, z_m1, b_i0, b_i1, z_not, z_ps, f_mb, f_rf, ↓reduceIte, Nat.zero_add, Nat.add_zero, Nat.one_mul, Nat.mul_one, Nat.zero_mul, Nat.mul_zero, not_true_eq_false, not_false_eq_true]
theorem bt_s {α β : Type} {o : Option ((Nat ⊕ α) × PH)} {v : α} {S : PH} {f : α → PH → Option β} {g : Nat → PH → Option β} (h : o = some (.inr v, S)) : bt o f g = f v S := by
  rw [h]
  rfl
theorem bd_s {α β : Type} {o : Option (α × PH)} {v : α} {S : PH} {f : α → PH → Option β} (h : o = some (v, S)) : bd o f = f v S := by
  rw [h]
  rfl
theorem n1_0 : ¬ nI 1 = (0 : Int32) := by decide
theorem h_374 (h : RelC S G x nw v hs nx sl tn tx) (hI : IV v) (hJ : JR v) (hn : v 12 0 = nI n) (h8 : n ≤ 8) (hq : q < n) {g : Int32} : ∃ S', j_L_holds_374 (some x) a b c d (nI 1) e (nI q) (a_rev (v (20 + q))) (a_wri (v (20 + q))) (a_sum (v (20 + q))) f g S = some (.inl (a, b, c, d, nI 1, e, f + g, nI (q + 1), S')) ∧ RelC S' G x nw v hs nx sl tn tx := by
  obtain ⟨S', e1, h'⟩ := h_484 (a := a) (b := b) (c := c) (d := d) (e := e) (f := f + g) h hI hn h8 hq
  refine ⟨S', ?_, h'⟩
  obtain ⟨j1, j2⟩ := hJ q (by omega)
  have p2 : m_X4_paperOf (some x) (nI q) (2 : Int32) S = some (.inr (a_rev (v (20 + q))), S) := g_pap h hI hn h8 hq (w := 2) (by omega)
  have p3 : m_X4_paperOf (some x) (nI q) (3 : Int32) S = some (.inr (a_wri (v (20 + q))), S) := g_pap h hI hn h8 hq (w := 3) (by omega)
  have p4 : m_X4_paperOf (some x) (nI q) (4 : Int32) S = some (.inr (a_sum (v (20 + q))), S) := g_pap h hI hn h8 hq (w := 4) (by omega)
  have p8 : m_X4_paperOf (some x) (nI q) (8 : Int32) S = some (.inr (v 9 q), S) := g_pap h hI hn h8 hq (w := 8) (by omega)
  have le4 : ¬ (4 : Int32) < a_ones (a_rev (v (20 + q))) := by
    rw [rev_on, rev_bc]
    show ¬ nI 4 < nI _
    rw [nI_ltI (by omega) (by omega)]
    omega
  unfold j_L_holds_374
  rw [le_t, if_neg n1_0, h.rc.x4, bt_s p2, if_pos rfl, h.rc.x4, bt_s p3, if_pos rfl, h.rc.x4, bt_s p4, if_pos rfl, bd_s (p_bits _ S), if_neg le4, h.rc.x4, bt_s p8]
  by_cases h9 : v 9 q = nI 0
  · rw [if_pos (show v 9 q = (0 : Int32) from h9)]
    exact e1
  · obtain ⟨d1, d2, d3⟩ := j2 h9
    have w0 : ¬ a_wri (v (20 + q)) = (0 : Int32) := fun z => d2 ((wri_0 _).mp z)
    rw [if_neg (show ¬ v 9 q = (0 : Int32) from h9), if_pos d1.symm, if_neg w0, h.rc.x4, bt_s p8, bd_s (p_bits _ S), wri_on]
    by_cases hs : a_sum (v (20 + q)) < nI 6 * a_bc (a_wri (v (20 + q)))
    · have d4 : v 9 q = nI 1 := by rw [d3, decide_eq_true hs] <;> rfl
      rw [if_pos (show a_sum (v (20 + q)) < (6 : Int32) * a_bc (a_wri (v (20 + q))) from hs)]
      unfold j_L_holds_476
      rw [if_pos (show v 9 q = (1 : Int32) from d4)]
      exact e1
    · have d4 : v 9 q = nI 2 := by rw [d3, decide_eq_false hs] <;> rfl
      rw [if_neg (show ¬ a_sum (v (20 + q)) < (6 : Int32) * a_bc (a_wri (v (20 + q))) from hs)]
      unfold j_L_holds_476
      rw [if_pos (show v 9 q = (2 : Int32) from d4)]
      exact e1
theorem h_s256 (h : RelC S G x nw v hs nx sl tn tx) (hI : IV v) (hn : v 12 0 = nI n) (h8 : n ≤ 8) (hq : q < n) {i : Nat} (hi : i < 8) {T W U : Int32} : st_L_holds_256 (some x) (a, b, c, d, nI 1, e, f, nI q, T, W, U, nI i, S) = some (.inl (a, b, c, d, nI 1, e, f, nI q, (if v (20 + q) i = nM then T else T ||| mb i), (if isS (v (20 + q) i) then W ||| mb i else W), (if isS (v (20 + q) i) then U + v (20 + q) i else U), nI (i + 1), S)) := by
  have e8 : ¬ (8 : Int32) ≤ nI i := fun z => absurd ((nI_leI (a := 8) (b := i) (by omega) (by omega)).mp z) (by omega)
  have ei : nI i + (1 : Int32) = nI (i + 1) := nI_add i 1
  have em : (1 : Int32) <<< (nI i &&& 31) = mb i := rfl
  have o0 : ∀ m : Int32, m ||| (0 : Int32) = m := or_0
  have a0 : ∀ m : Int32, m + (0 : Int32) = m := add_0
  rw [st_L_holds_256, if_neg e8, h.rc.x4, bt_s (g_sco h hI hn h8 hi hq)]
  rcases hI.sc (show q < 8 by omega) hi with hr | ⟨hr, hk⟩
  · have l0 : nM < (0 : Int32) := by decide
    rw [hr, if_pos (show nM = (-1 : Int32) from rfl), isS_nM, if_pos rfl, if_neg (by decide), if_neg (by decide)]
    unfold j_L_holds_289
    rw [le_t, if_pos l0]
    unfold j_L_holds_314
    rw [le_t, if_pos l0, le_t, ei, o0, o0, a0]
  · rw [hr]
    generalize nv v (20 + q) i = k at hk
    have nm : ¬ nI k = nM := nM_ne (by omega)
    have nm2 : ¬ nI k = (-1 : Int32) := nm
    have l0 : ¬ nI k < (0 : Int32) := nI_pos (by omega)
    rw [if_neg nm2, if_neg nm, isS_nI hk, em]
    by_cases hk9 : k ≤ 9
    · have l9 : ¬ (10 : Int32) ≤ nI k := fun z => absurd ((nI_leI (a := 10) (b := k) (by omega) (by omega)).mp z) (by omega)
      rw [decide_eq_true hk9, if_pos rfl, if_pos rfl]
      unfold j_L_holds_289
      rw [le_t, if_neg l0, if_neg l9]
      unfold j_L_holds_314
      rw [le_t, if_neg l0, if_neg l9, le_t, ei, em]
    · have l9 : (10 : Int32) ≤ nI k := (nI_leI (a := 10) (b := k) (by omega) (by omega)).mpr (by omega)
      rw [decide_eq_false hk9, if_neg (by decide), if_neg (by decide)]
      unfold j_L_holds_289
      rw [le_t, if_neg l0, if_pos l9]
      unfold j_L_holds_314
      rw [le_t, if_neg l0, if_pos l9, le_t, ei, o0, a0]
theorem h_256 (h : RelC S G x nw v hs nx sl tn tx) (hI : IV v) (hJ : JR v) (hn : v 12 0 = nI n) (h8 : n ≤ 8) (hq : q < n) : ∃ S', lp (st_L_holds_256 (some x)) (a, b, c, d, nI 1, e, f, nI q, nI 0, nI 0, nI 0, nI 0, S) = some (.inl (a, b, c, d, nI 1, e + nI (cnt (rw_ (v (20 + q))) 8), f + (if v 9 q = nI 0 then nI 0 else nI 1), nI (q + 1), S')) ∧ RelC S' G x nw v hs nx sl tn tx := by
  have hq8 : q < 8 := by omega
  obtain ⟨S', e1, h'⟩ := h_374 (a := a) (b := b) (c := c) (d := d) (e := e + nI (cnt (rw_ (v (20 + q))) 8)) (f := f) (g := if v 9 q = nI 0 then nI 0 else nI 1) h hI hJ hn h8 hq
  refine ⟨S', ?_, h'⟩
  refine lpF 8 (fun i => (a, b, c, d, nI 1, e, f, nI q, fo (fun i m => if v (20 + q) i = nM then m else m ||| mb i) i (nI 0), fo (fun i m => if isS (v (20 + q) i) then m ||| mb i else m) i (nI 0), fo (fun i m => if isS (v (20 + q) i) then m + v (20 + q) i else m) i (nI 0), nI i, S)) _ rfl (fun i hi => h_s256 h hI hn h8 hq hi) ?_
  have er : fo (fun i m => if v (20 + q) i = nM then m else m ||| mb i) 8 (nI 0) = a_rev (v (20 + q)) := rfl
  have ew : fo (fun i m => if isS (v (20 + q) i) then m ||| mb i else m) 8 (nI 0) = a_wri (v (20 + q)) := rfl
  have es : fo (fun i m => if isS (v (20 + q) i) then m + v (20 + q) i else m) 8 (nI 0) = a_sum (v (20 + q)) := rfl
  have p8 : m_X4_paperOf (some x) (nI q) (8 : Int32) S = some (.inr (v 9 q), S) := g_pap h hI hn h8 hq (w := 8) (by omega)
  obtain ⟨hd, hd2⟩ := hI.de hq8
  show st_L_holds_256 (some x) (a, b, c, d, nI 1, e, f, nI q, fo (fun i m => if v (20 + q) i = nM then m else m ||| mb i) 8 (nI 0), fo (fun i m => if isS (v (20 + q) i) then m ||| mb i else m) 8 (nI 0), fo (fun i m => if isS (v (20 + q) i) then m + v (20 + q) i else m) 8 (nI 0), nI 8, S) = _
  rw [er, ew, es, st_L_holds_256, if_pos (show (8 : Int32) ≤ nI 8 by decide), bd_s (p_bits _ S), le_t, h.rc.x4, bt_s p8, rev_on, rev_bc]
  by_cases h9 : v 9 q = nI 0
  · rw [if_pos h9] at e1 ⊢
    rw [if_pos (show v 9 q ≤ (0 : Int32) by rw [h9]; decide)]
    exact congrArg ir e1
  · rw [if_neg h9] at e1 ⊢
    have h0 : ¬ v 9 q ≤ (0 : Int32) := by
      generalize nv v 9 q = dv at hd hd2
      rw [hd] at h9 ⊢
      intro z
      have z2 := (nI_leI (a := dv) (b := 0) (by omega) (by omega)).mp z
      exact h9 (by rw [show dv = 0 by omega])
    rw [if_neg h0]
    exact congrArg ir e1
theorem h_672 (h : RelC S G x nw v hs nx sl tn tx) (hI : IV v) : j_L_holds_672 (some x) (a_spent v) (nI 1) S = some (.inr (nI 1), S) := by
  have e : FP.fdiv (FP.i2f (a_spent v)) (FP.i2f (nI 100 + v 15 0)) = a_share v := rfl
  have e2 : Op.cmpValue (FP.fcmp (a_share v) (a_share v)) .l = nI 0 := share_eq hI
  have e3 := share_nn hI
  simp (disch := omega) only [j_L_holds_672, h.rc.x4, k_share h hI, g_cnt h, a_num, e, e2, ck_t e3, z_0, z_1, z_2, z_3, z_4, z_5, z_6, z_7, z_8, z_9, z_10, z_12, z_13, z_15, z_17, z_20, z_25, z_31, z_33, z_41, z_49, z_57, z_60, z_72, z_100, z_161, z_255, z_256, z_999, z_9999, of_n, nI_add, pk_mul, n_le, n_lt, n_eq, n_cl, ck_n, ck_d, ck_tr, le_t, bd_t, ir_t, bt_r, bt_l, b_t, b_f, b_lt, b_lf, b_ef, z_m1, b_i0, b_i1, z_not, z_ps, f_mb, f_rf, ↓reduceIte, Nat.zero_add, Nat.add_zero, Nat.one_mul, Nat.mul_one, Nat.zero_mul, Nat.mul_zero, not_true_eq_false, not_false_eq_true]
theorem h_234 (h : RelC S G x nw v hs nx sl tn tx) (hI : IV v) (hJ : JR v) (hn : v 12 0 = nI n) (h8 : n ≤ 8) {k : Nat} (hk : k < 1000) (hp : a_pairs v = nI k) : ∃ S', lp (st_L_holds_234 (some x)) (a_spent v, a_tokens v, nI (s_wri v), nI (2 * k), nI 1, nI 0, nI 0, nI 0, S) = some (.inr (nI 1), S') ∧ RelC S' G x nw v hs nx sl tn tx := by
  obtain ⟨t', ⟨S1, rfl, h1⟩, e⟩ := lp_rel (step := st_L_holds_234 (some x)) (t := (a_spent v, a_tokens v, nI (s_wri v), nI (2 * k), nI 1, nI 0, nI 0, nI 0, S)) n (fun i t => ∃ S, t = (a_spent v, a_tokens v, nI (s_wri v), nI (2 * k), nI 1, nI (s_rev v i), nI (s_dec v i), nI i, S) ∧ RelC S G x nw v hs nx sl tn tx) ⟨S, rfl, h⟩ (fun i hi t ht => by
    obtain ⟨S1, rfl, h1⟩ := ht
    obtain ⟨S2, e2, h2⟩ := h_256 (a := a_spent v) (b := a_tokens v) (c := nI (s_wri v)) (d := nI (2 * k)) (e := nI (s_rev v i)) (f := nI (s_dec v i)) h1 hI hJ hn h8 hi
    have ed : nI (s_dec v i) + (if v 9 i = nI 0 then nI 0 else nI 1) = nI (s_dec v (i + 1)) := by
      show _ = nI (s_dec v i + bn (!decide (v 9 i = nI 0)))
      by_cases h9 : v 9 i = nI 0
      · rw [if_pos h9, decide_eq_true h9, nI_add] <;> rfl
      · rw [if_neg h9, decide_eq_false h9, nI_add] <;> rfl
    rw [sum_rev, ed] at e2
    have c0 : m_X4_count (some x) (0 : Int32) S1 = some (.inr (nI n), S1) := (g_cnt0 h1).trans (by rw [hn])
    refine ⟨_, ?_, S2, rfl, h2⟩
    rw [st_L_holds_234, h1.rc.x4, bt_s c0, if_neg (show ¬ nI n ≤ nI i by rw [nI_leI (by omega) (by omega)]; omega)]
    exact e2)
  refine ⟨S1, ?_, h1⟩
  rw [e]
  refine lp_inr ?_
  have en := an_e hn h8
  have r1 := revs_e hI
  have r2 := wrts_e v
  have r3 := decd_e hI
  have r4 := rev_le v n h8
  have r5 := wri_rev hI
  rw [en] at r1 r3 r5
  have c0 : m_X4_count (some x) (0 : Int32) S1 = some (.inr (nI n), S1) := (g_cnt0 h1).trans (by rw [hn])
  have c3 : m_X4_count (some x) (3 : Int32) S1 = some (.inr (a_spent v), S1) := g_cnt h1 (w := 3) (by omega)
  have c4 : m_X4_count (some x) (4 : Int32) S1 = some (.inr (a_tokens v), S1) := g_cnt h1 (w := 4) (by omega)
  have c6 : m_X4_count (some x) (6 : Int32) S1 = some (.inr (nI (s_rev v n)), S1) := (show m_X4_count (some x) (6 : Int32) S1 = some (.inr (a_revs v), S1) from g_cnt h1 (w := 6) (by omega)).trans (by rw [r1])
  have c7 : m_X4_count (some x) (7 : Int32) S1 = some (.inr (nI (s_wri v)), S1) := (show m_X4_count (some x) (7 : Int32) S1 = some (.inr (a_wrts v), S1) from g_cnt h1 (w := 7) (by omega)).trans (by rw [r2])
  have c8 : m_X4_count (some x) (8 : Int32) S1 = some (.inr (nI (s_dec v n)), S1) := (show m_X4_count (some x) (8 : Int32) S1 = some (.inr (a_decd v), S1) from g_cnt h1 (w := 8) (by omega)).trans (by rw [r3])
  have c10 : m_X4_count (some x) (10 : Int32) S1 = some (.inr (nI k), S1) := (show m_X4_count (some x) (10 : Int32) S1 = some (.inr (a_pairs v), S1) from g_cnt h1 (w := 10) (by omega)).trans (by rw [hp])
  have hh : j_L_holds_672 (some x) (a_spent v) (1 : Int32) S1 = some (.inr (nI 1), S1) := h_672 h1 hI
  rw [st_L_holds_234, h1.rc.x4, bt_s c0, if_pos (show nI n ≤ nI n from Int32.le_refl _), if_neg n1_0, h1.rc.x4, bt_s c3, if_pos rfl, h1.rc.x4, bt_s c4, if_pos rfl, h1.rc.x4, bt_s c6, if_pos rfl, h1.rc.x4, bt_s c7, if_pos rfl, if_neg (show ¬ nI (s_rev v n) < nI (s_wri v) by rw [nI_ltI (by omega) (by omega)]; omega), h1.rc.x4, bt_s c8, if_pos rfl, h1.rc.x4, bt_s c10, if_pos (show (2 : Int32) * nI k = nI (2 * k) from pk_mul 2 k), hh]
  rfl
theorem h_167 (h : RelC S G x nw v hs nx sl tn tx) (hI : IV v) {p : Nat} (hp : p < 8) : lp (st_L_holds_167 (some x)) (a, b, c, d, nI 1, nI p, nI 0, S) = some (.inl (a, b, c, d, nI 1, nI (p + 1), S)) := by
  refine lpF 8 (fun i => (a, b, c, d, nI 1, nI p, nI i, S)) _ rfl (fun i hi => ?_) ?_
  · have ws := w_sym hI hp hi
    simp (disch := omega) only [st_L_holds_167, h.rc.x4, g_per h hI, a_per, ws, z_0, z_1, z_2, z_3, z_4, z_5, z_6, z_7, z_8, z_9, z_10, z_12, z_13, z_15, z_17, z_20, z_25, z_31, z_33, z_41, z_49, z_57, z_60, z_72, z_100, z_161, z_255, z_256, z_999, z_9999, of_n, nI_add, pk_mul, n_le, n_lt, n_eq, n_cl, ck_n, ck_d, ck_tr, le_t, bd_t, ir_t, bt_r, bt_l, b_t, b_f, b_lt, b_lf, b_ef, z_m1, b_i0, b_i1, z_not, z_ps, f_mb, f_rf, ↓reduceIte, Nat.zero_add, Nat.add_zero, Nat.one_mul, Nat.mul_one, Nat.zero_mul, Nat.mul_zero, not_true_eq_false, not_false_eq_true]
  · simp (disch := omega) only [st_L_holds_167, z_0, z_1, z_2, z_3, z_4, z_5, z_6, z_7, z_8, z_9, z_10, z_12, z_13, z_15, z_17, z_20, z_25, z_31, z_33, z_41, z_49, z_57, z_60, z_72, z_100, z_161, z_255, z_256, z_999, z_9999, of_n, nI_add, pk_mul, n_le, n_lt, n_eq, n_cl, ck_n, ck_d, ck_tr, le_t, bd_t, ir_t, bt_r, bt_l, b_t, b_f, b_lt, b_lf, b_ef, z_m1, b_i0, b_i1, z_not, z_ps, f_mb, f_rf, ↓reduceIte, Nat.zero_add, Nat.add_zero, Nat.one_mul, Nat.mul_one, Nat.zero_mul, Nat.mul_zero, not_true_eq_false, not_false_eq_true]
theorem h_52 (h : RelC S G x nw v hs nx sl tn tx) (hI : IV v) (hJ : JR v) (hn : v 12 0 = nI n) (h8 : n ≤ 8) : ∃ S', lp (st_L_holds_52 (some x)) (nI 0, nI 0, nI 0, nI 0, nI 1, nI 0, S) = some (.inr (nI 1), S') ∧ RelC S' G x nw v hs nx sl tn tx := by
  obtain ⟨k, hk, k1, k2⟩ := pairs_e hI
  obtain ⟨S', e1, h'⟩ := h_234 h hI hJ hn h8 hk k1
  refine ⟨S', ?_, h'⟩
  refine lpF 8 (fun i => (fo (fun i m => m + v 3 i) i (nI 0), fo (fun i m => m + a_tok v i) i (nI 0), fo (fun i m => m + a_wrt v i) i (nI 0), fo (fun i m => m + a_ones (v 1 i)) i (nI 0), nI 1, nI i, S)) _ rfl (fun i hi => ?_) ?_
  · have t0 : ¬ a_tok v i < nI 0 := by rw [hI.tok hi]; exact nI_pos (by have := (hI.go hi).2; omega)
    have s0 : ¬ v 3 i < nI 0 := by rw [(hI.sp hi).1]; exact nI_pos (by have := (hI.go hi).2; have := (hI.sp hi).2; omega)
    have ts : a_tok v i + v 3 i = v 2 i := Int32.sub_add_cancel _ _
    generalize ht : a_tok v i = T at t0 ts
    simp (disch := omega) only [st_L_holds_52, h.rc.x4, g_per h hI, a_per, ht, p_bits, t0, s0, ts, h_167 h hI, z_0, z_1, z_2, z_3, z_4, z_5, z_6, z_7, z_8, z_9, z_10, z_12, z_13, z_15, z_17, z_20, z_25, z_31, z_33, z_41, z_49, z_57, z_60, z_72, z_100, z_161, z_255, z_256, z_999, z_9999, of_n, nI_add, pk_mul, n_le, n_lt, n_eq, n_cl, ck_n, ck_d, ck_tr, le_t, bd_t, ir_t, bt_r, bt_l, b_t, b_f, b_lt, b_lf, b_ef, z_m1, b_i0, b_i1, z_not, z_ps, f_mb, f_rf, ↓reduceIte, Nat.zero_add, Nat.add_zero, Nat.one_mul, Nat.mul_one, Nat.zero_mul, Nat.mul_zero, not_true_eq_false, not_false_eq_true, fo]
  · have e3 : fo (fun i m => m + v 3 i) 8 (nI 0) = a_spent v := rfl
    have e2 : fo (fun i m => m + a_tok v i) 8 (nI 0) = a_tokens v := rfl
    have e4 := wrt_e v
    simp (disch := omega) only [st_L_holds_52, e3, e2, e4, k2, e1, z_0, z_1, z_2, z_3, z_4, z_5, z_6, z_7, z_8, z_9, z_10, z_12, z_13, z_15, z_17, z_20, z_25, z_31, z_33, z_41, z_49, z_57, z_60, z_72, z_100, z_161, z_255, z_256, z_999, z_9999, of_n, nI_add, pk_mul, n_le, n_lt, n_eq, n_cl, ck_n, ck_d, ck_tr, le_t, bd_t, ir_t, bt_r, bt_l, b_t, b_f, b_lt, b_lf, b_ef, z_m1, b_i0, b_i1, z_not, z_ps, f_mb, f_rf, ↓reduceIte, Nat.zero_add, Nat.add_zero, Nat.one_mul, Nat.mul_one, Nat.zero_mul, Nat.mul_zero, not_true_eq_false, not_false_eq_true]
/-- the accounts hold -/
theorem q_holds (h : RelC S G x nw v hs nx sl tn tx) (hI : IV v) (hJ : JR v) : ∃ S', m_L_holds (some x) S = some (.inr (nI 1), S') ∧ RelC S' G x nw v hs nx sl tn tx := by
  obtain ⟨en, h8⟩ := hI.in_
  generalize a_n v = n at en h8
  obtain ⟨S', e1, h'⟩ := h_52 h hI hJ en h8
  refine ⟨S', ?_, h'⟩
  have ae := all_e hI
  have p0 : ¬ v 14 0 < nI 0 := by rw [hI.po.1]; exact nI_pos (by have := hI.po.2; omega)
  simp (disch := omega) only [m_L_holds, h.rc.x4, g_cnt h, a_num, ae, p0, e1, z_0, z_1, z_2, z_3, z_4, z_5, z_6, z_7, z_8, z_9, z_10, z_12, z_13, z_15, z_17, z_20, z_25, z_31, z_33, z_41, z_49, z_57, z_60, z_72, z_100, z_161, z_255, z_256, z_999, z_9999, of_n, nI_add, pk_mul, n_le, n_lt, n_eq, n_cl, ck_n, ck_d, ck_tr, le_t, bd_t, ir_t, bt_r, bt_l, b_t, b_f, b_lt, b_lf, b_ef, z_m1, b_i0, b_i1, z_not, z_ps, f_mb, f_rf, ↓reduceIte, Nat.zero_add, Nat.add_zero, Nat.one_mul, Nat.mul_one, Nat.zero_mul, Nat.mul_zero, not_true_eq_false, not_false_eq_true]
end HO
