/-! A WEEK IS RUN: the reference -/
theorem wk_nn {v : AS} (hI : IV v) : ∀ n, ∃ j, j ≤ 9 * n ∧ (a_wk v n).1 = nI j
  | 0 => ⟨0, by omega, rfl⟩
  | n + 1 => by
    obtain ⟨j, h1, h2⟩ := wk_nn hI n
    have e : a_wk v (n + 1) = (if (a_wk v n).2 14 0 < v 11 2 then a_wk v n else ((a_wk v n).1 + v 11 2, a_give (a_wk v n).2 n (v 11 2))) := rfl
    rw [e]
    split
    · exact ⟨j, by omega, h2⟩
    · have k := hI.2.1.2.2.1
      refine ⟨j + nv v 11 2, by have := k.2; omega, ?_⟩
      show (a_wk v n).1 + v 11 2 = _
      rw [h2, k.1, nI_add]
theorem week_nn {v : AS} (hI : IV v) : ¬ (a_week v).1 < 0 := by
  obtain ⟨j, h1, h2⟩ := wk_nn hI 8
  show ¬ (a_wk v 8).1 < 0
  rw [h2]
  exact nI_pos (by omega)
section RR
variable {S : PH} {G : Nat → Nat} {m : Nat} {u v : AS} {hs : List AS} {sl : Nat → Option AS} {tn p : Nat} {tx : Nat → Int32}
theorem o_ord (hg : Gi G) (h : RM S G m) (hI : IV v) (hu : MU u v hs sl tn tx) {C : Nat → Int32} (ho : OK C p) (hf : RF C p u) : ∃ u', m_X5_isDone (some m) (mput S G u) = some (if (a_ord C v p).1 then nI 1 else nI 0, mput S G u') ∧ MU u' (a_ord C v p).2 hs sl tn tx ∧ s1 u u' := by
  obtain ⟨f7, f8, f9, f10⟩ := hf
  have hn := hI.in_.2
  have qn : ∀ {i : Int32}, a_isP v i = true → ∃ q, q < a_n v ∧ i = nI q ∧ i.toNatClampNeg = q := by
    intro i h
    obtain ⟨q, hq, rfl⟩ := isP_n hI h
    exact ⟨q, hq, rfl, n_cl (by omega)⟩
  have g7 : p_I (mput S G u) m 7 = C p := (mg_i h 7 (by omega)).trans f7
  have ip : ∀ i, m_X5_isPaper (some m) i (mput S G u) = some (if a_isP v i then nI 1 else nI 0, mput S G u) := fun i => o_isPaper hg h hI hu i
  have hcR := cI h hu.1
  have ivo := iv_ord (v := v) hI ho
  unfold m_X5_isDone
  rw [dr_mp, h.mm, g7]
  unfold a_ord og at ivo ⊢
  rcases ho with c | ⟨n0, c, d⟩ | ⟨n0, n1, n2, c, d1, d2, d4⟩ | ⟨n0, n1, n2, n3, c, d1, d2⟩
  · rw [if_pos c] at ivo ⊢
    rw [c, if_neg (show ¬ nI 119 = 100 by decide), if_neg (show ¬ nI 119 = 114 by decide)]
    unfold j_X5_isDone_29
    have ev : u 1 1 = v 13 0 := hu.1 13 0 (by unfold vd; omega)
    rw [dr_mp, h.mm, g7, c, if_pos (show nI 119 = 119 from rfl), R_mp, dr_mp, h.s, N_mp, h.ns, show ((1 : Int32)) = nI 1 from rfl, ck_n (by omega) (by omega), mg_1 h, ev, show (999 : Int32) = nI 999 from rfl]
    by_cases g : nI 999 ≤ v 13 0
    · rw [if_pos g, if_pos g]
      exact ⟨u, rfl, hu, s1.rf u⟩
    · rw [if_neg g] at ivo
      rw [if_neg g, if_neg g]
      obtain ⟨u2, d1, d2, d3⟩ := o_week hg h hn hu.1
      refine ⟨u2, ?_, MU_s1 hu d3 (by rw [ivo.2]; exact d2), d3⟩
      unfold j_X5_isDone_56
      rw [if_neg (show ¬ nI 1 = 0 by decide), dr_mp, h.mm, d1, bd_t]
      unfold j_X5_isDone_69
      rw [if_neg (show ¬ nI 1 = 0 by decide), if_neg (week_nn hI)]
      rfl
  · rw [if_neg n0] at ivo ⊢
    obtain ⟨_, j, j7, _, ej, ec⟩ := d7_9 d
    have g8 : p_I (mput S G u) m 8 = dgt (C (p + 1)) := by rw [mg_i h 8 (by omega), f8 n0, ec, ej]
    have e29 : (if C p = 100 then j_X5_isDone_18 (some m) (mput S G u) else if C p = 114 then j_X5_isDone_18 (some m) (mput S G u) else j_X5_isDone_29 (some m) (p_I (mput S G u) m 9) (mput S G u)) = j_X5_isDone_29 (some m) (dgt (C (p + 1))) (mput S G u) := by
      have k : j_X5_isDone_18 (some m) (mput S G u) = j_X5_isDone_29 (some m) (dgt (C (p + 1))) (mput S G u) := by
        unfold j_X5_isDone_18
        rw [dr_mp, h.mm, g8]
      rcases c with c | c
      · rw [if_pos (show C p = 100 from c)]; exact k
      · rw [if_neg (by rw [c]; decide), if_pos (show C p = 114 from c)]; exact k
    rw [e29]
    unfold j_X5_isDone_29
    rw [dr_mp, h.mm, g7, if_neg (show ¬ C p = 119 from n0), ip, bd_t]
    by_cases c1 : C p = nI 100
    · rw [if_pos c1] at ivo ⊢
      by_cases h2 : a_isP v (dgt (C (p + 1))) = true
      · rw [if_pos h2] at ivo
        obtain ⟨q, qlt, eq, eqc⟩ := qn h2
        rw [eqc] at ivo
        obtain ⟨u2, d1, d2, d3⟩ := o_discusses hg h hn hI hu.1 qlt
        rw [if_pos h2, if_pos h2, if_neg (show ¬ nI 1 = 0 by decide), dr_mp, h.mm, g7, if_pos (show C p = 100 from c1), eqc, eq, d1, bd_t]
        refine ⟨u2, ?_, MU_s1 hu d3 (by rw [ivo.2]; exact d2), d3⟩
        by_cases g : (a_disc v q).1 < nI 10
        · rw [if_pos (show (a_disc v q).1 < 10 from g), decide_eq_true g]
          rfl
        · rw [if_neg (show ¬ (a_disc v q).1 < 10 from g), decide_eq_false g]
          rfl
      · rw [if_neg h2, if_neg h2, if_pos (show nI 0 = 0 from rfl)]
        exact ⟨u, rfl, hu, s1.rf u⟩
    · have c2 := c.resolve_left c1
      rw [if_neg c1, if_pos c2] at ivo ⊢
      by_cases h2 : a_isP v (dgt (C (p + 1))) = true
      · rw [if_pos h2] at ivo
        obtain ⟨q, qlt, eq, eqc⟩ := qn h2
        rw [eqc] at ivo
        obtain ⟨u2, d1, d2, d3⟩ := o_rebuts hg h hn hI hu.1 qlt
        rw [if_pos h2, if_pos h2, if_neg (show ¬ nI 1 = 0 by decide), dr_mp, h.mm, g7, if_neg (show ¬ C p = 100 from c1), if_pos (show C p = 114 from c2), eqc, eq, d1, bd_t]
        refine ⟨u2, ?_, MU_s1 hu d3 (by rw [ivo.2]; exact d2), d3⟩
        by_cases g : (a_reb v q).1 < nI 10
        · rw [if_pos (show (a_reb v q).1 < 10 from g), decide_eq_true g]
          rfl
        · rw [if_neg (show ¬ (a_reb v q).1 < 10 from g), decide_eq_false g]
          rfl
      · rw [if_neg h2, if_neg h2, if_pos (show nI 0 = 0 from rfl)]
        exact ⟨u, rfl, hu, s1.rf u⟩
  · obtain ⟨_, i, i7, _, ei, ec⟩ := d7_9 d1
    obtain ⟨_, j, j7, _, ej, ec2⟩ := d7_9 d2
    obtain ⟨t, t9, et, ec4⟩ := d9_g d4
    have g8 : ∀ w : AS, w 8 0 = u 8 0 → p_I (mput S G w) m 8 = nI i := fun w e => by rw [mg_i h 8 (by omega), e, f8 n0, ec]
    have g9 : p_I (mput S G u) m 9 = dgt (C (p + 2)) := by rw [mg_i h 9 (by omega), f9 (Or.inr (Or.inr c)), ec2, ej]
    have g10 : p_I (mput S G u) m 10 = dgt (C (p + 4)) := by rw [mg_i h 10 (by omega), f10 c, ec4, et]
    rw [if_neg n0, if_neg n1, if_neg n2, if_pos c] at ivo ⊢
    rw [if_neg (show ¬ C p = 100 from n1), if_neg (show ¬ C p = 114 from n2), g9]
    unfold j_X5_isDone_29
    rw [dr_mp, h.mm, g7, if_neg (show ¬ C p = 119 from n0), ip, bd_t]
    by_cases h2 : a_isP v (dgt (C (p + 2))) = true
    · rw [if_pos h2] at ivo
      obtain ⟨q, qlt, eq, eqc⟩ := qn h2
      have cwq := o_canWrite (hM (u := u) h) hcR hn (p := i) (by omega) qlt
      have scq := o_score (hM (u := u) h) hcR hn (p := i) (by omega) qlt
      have e5 : (5 : Int32) + nI i = nI (5 + i) := nI_add 5 i
      rw [if_pos h2, if_pos h2, if_neg (show ¬ nI 1 = 0 by decide), dr_mp, h.mm, g7, if_neg (show ¬ C p = 100 from n1), if_neg (show ¬ C p = 114 from n2), if_pos (show C p = 115 from c), g8 u rfl, eqc, eq, cwq, bd_t, dr_mp, h.mm, g8 u rfl, e5, g10]
      rw [eqc, ei, n_cl (show i < 2147483648 by omega)] at ivo
      rw [ei, n_cl (show i < 2147483648 by omega)]
      by_cases g : a_cw v i q = true
      · rw [if_pos g] at ivo
        rw [if_pos g, if_pos g, if_neg (show ¬ nI 1 = 0 by decide)]
        unfold j_X5_isDone_228
        rw [dr_mp, h.mm, o_lay hg h (by omega) (by omega), bd_t]
        have k := cr_s (p := i) (q := q) hn hu.1 (by omega) qlt (dgt (C (p + 4)))
        refine ⟨_, rfl, MU_s1 hu ⟨fun f hf => u_ne hf, fun k hk => u_k (by omega)⟩ (by rw [ivo.2]; exact k), ⟨fun f hf => u_ne hf, fun k hk => u_k (by omega)⟩⟩
      · rw [if_neg g] at ivo
        rw [if_neg g, if_neg g, if_pos (show nI 0 = 0 from rfl), scq, bd_t]
        unfold j_X5_isDone_228
        rw [dr_mp, h.mm, o_lay hg h (by omega) (by omega), bd_t]
        have k := cr_s (p := i) (q := q) hn hu.1 (by omega) qlt (v (20 + q) i)
        rw [u_id rfl] at k
        refine ⟨_, rfl, MU_s1 hu ⟨fun f hf => u_ne hf, fun k hk => u_k (by omega)⟩ k, ⟨fun f hf => u_ne hf, fun k hk => u_k (by omega)⟩⟩
    · rw [if_neg h2, if_neg h2, if_pos (show nI 0 = 0 from rfl)]
      exact ⟨u, rfl, hu, s1.rf u⟩
  · obtain ⟨_, i, i7, _, ei, ec⟩ := d7_9 d1
    obtain ⟨_, j, j7, _, ej, ec2⟩ := d7_9 d2
    have g8 : p_I (mput S G u) m 8 = nI i := by rw [mg_i h 8 (by omega), f8 n0, ec]
    have g9 : p_I (mput S G u) m 9 = dgt (C (p + 2)) := by rw [mg_i h 9 (by omega), f9 (by rcases c with c | c; exact Or.inl c; exact Or.inr (Or.inl c)), ec2, ej]
    rw [if_neg n0, if_neg n1, if_neg n2, if_neg n3] at ivo ⊢
    rw [if_neg (show ¬ C p = 100 from n1), if_neg (show ¬ C p = 114 from n2), g9]
    unfold j_X5_isDone_29
    rw [dr_mp, h.mm, g7, if_neg (show ¬ C p = 119 from n0), ip, bd_t]
    by_cases h2 : a_isP v (dgt (C (p + 2))) = true
    · obtain ⟨q, qlt, eq, eqc⟩ := qn h2
      rw [if_pos h2, if_pos h2, if_pos h2, if_neg (show ¬ nI 1 = 0 by decide), dr_mp, h.mm, g7, if_neg (show ¬ C p = 100 from n1), if_neg (show ¬ C p = 114 from n2), if_neg (show ¬ C p = 115 from n3), g8, eqc, eq, ei, n_cl (show i < 2147483648 by omega)]
      rw [if_pos h2, if_pos h2, eqc, ei, n_cl (show i < 2147483648 by omega)] at ivo
      by_cases c1 : C p = nI 116
      · rw [if_pos c1] at ivo
        obtain ⟨u2, d1, d2, d3⟩ := o_takes hg h hn hI hu.1 (p := i) (q := q) (by omega) qlt
        rw [if_pos c1, if_pos (show C p = 116 from c1), d1, bd_t]
        refine ⟨u2, ?_, MU_s1 hu d3 (by rw [ivo.2]; exact d2), d3⟩
        by_cases g : (a_take v i q).1 = nI 0
        · rw [if_pos (show (a_take v i q).1 = 0 from g), decide_eq_true g]
          rfl
        · rw [if_neg (show ¬ (a_take v i q).1 = 0 from g), decide_eq_false g]
          rfl
      · rw [if_neg c1] at ivo
        have scq := o_score (hM (u := u) h) hcR hn (p := i) (by omega) qlt
        rw [if_neg c1, if_neg (show ¬ C p = 116 from c1), scq, bd_t]
        by_cases g : a_cx v i q = true
        · have g' : v (20 + q) i = 10 := of_decide_eq_true g
          obtain ⟨u2, d1, d2, d3⟩ := o_drops hg h hn hu.1 (p := i) (q := q) (by omega) qlt
          rw [if_pos g] at ivo
          rw [if_pos g, if_pos g']
          refine ⟨u2, ?_, MU_s1 hu d3 (by rw [ivo.2]; exact d2), d3⟩
          unfold j_X5_isDone_252
          rw [if_neg (show ¬ (1 : Int32) = 0 by decide), dr_mp, h.mm, g8, d1, bd_t]
          rfl
        · have g' : ¬ v (20 + q) i = 10 := fun z => g (decide_eq_true z)
          rw [if_neg g, if_neg g']
          exact ⟨u, rfl, hu, s1.rf u⟩
    · rw [if_neg h2, if_neg h2, if_neg h2, if_pos (show nI 0 = 0 from rfl)]
      refine ⟨u, ?_, ?_, s1.rf u⟩
      · split <;> rfl
      · split <;> exact hu
end RR
