/-! THE REFERENCE'S FACE: writing, going back, meetings -/
section MK
variable {S : PH} {G : Nat → Nat} {m : Nat} {u v : AS} {hs : List AS} {sl : Nat → Option AS} {tn : Nat} {tx : Nat → Int32}
theorem q_write (hg : Gi G) (h : RM S G m) (hI : IV v) (hu : MU u v hs sl tn tx) (i j s : Int32) : ∃ u', RES (m_X5_write (some m) i j s (mput S G u)) S G (fun e => if e = 2 then nI 1 else if e = 0 then nI 2 else nI 3) u' (f_write v i j s).1 ∧ MUO u' v hs sl tn tx (f_write v i j s).2 := by
  have hn := hI.in_.2
  have bad : ∀ c, ¬ c = nI 0 → j_X5_write_60 (some m) i j s (some m) c (mput S G u) = some (nI 0, mput S G (u_2 u 0 0 c)) := by
    intro c hc
    unfold j_X5_write_60
    rw [dr_mp, h.mm, (q_no hg h hu hc).1, bd_t, if_pos (show nI 0 = 0 from rfl)]
    rfl
  have b20 : j_X5_write_20 (some m) i j s (0 : Int32) (mput S G u) = some (nI 0, mput S G (u_2 u 0 0 (nI 1))) := by
    unfold j_X5_write_20
    rw [if_pos rfl]
    exact bad (nI 1) (by decide)
  unfold m_X5_write f_write
  rw [o_isPerson, bd_t]
  by_cases h1 : a_in i (nI 0) (nI 7) = true
  · rw [if_pos h1, if_pos h1, if_neg (show ¬ nI 1 = 0 by decide), dr_mp, h.mm, o_isPaper hg h hI hu, bd_t]
    by_cases h2 : a_isP v j = true
    · rw [if_pos h2, if_pos h2, if_neg (show ¬ nI 1 = 0 by decide)]
      obtain ⟨p, hp, rfl⟩ := in_n (by omega) h1
      obtain ⟨q, hq, rfl⟩ := isP_n hI h2
      rw [n_cl (by omega), n_cl (by omega)]
      unfold j_X5_write_20
      rw [if_neg (show ¬ (1 : Int32) = 0 by decide), show ((0 : Int32)) = nI 0 from rfl, show (9 : Int32) = nI 9 from rfl, o_in9, bd_t]
      by_cases h3 : isS s = true
      · rw [if_pos h3, if_pos h3, if_neg (show ¬ nI 1 = nI 0 by decide)]
        have sc := o_canWrite (hM (u := u) h) (by rw [rf_mp, mg_1 h]; exact hu.1) hn (p := p) (q := q) (by omega) hq
        rw [dr_mp, h.mm, sc, bd_t]
        by_cases h4 : a_cw v p q = true
        · rw [if_pos h4, if_pos h4, if_neg (show ¬ nI 1 = nI 0 by decide)]
          obtain ⟨e1, u1, e2, e3, e4⟩ := q_yes hg h hn hu
          have m1 := MU_set (w := s) hn e3 (f := 20 + q) (p := p) (k := 57 + 13 * q + (5 + p)) (by unfold vd; omega) (by omega) (by omega) (by omega) (by omega) (by rw [lo_20 (by omega)]; omega)
          have an : a_n (u_2 v (20 + q) p s) = a_n v := an_e (u_ne (by omega))
          have ly := o_lay (u := u1) hg h (q := q) (w := 5 + p) (by omega) (by omega) s
          have s2 := o_wri (hM (u := u_2 u1 1 (57 + 13 * q + (5 + p)) s) h) (by rw [rf_mp, mg_1 h]; exact m1.1) (by rw [an]; exact hn) (q := q) (by rw [an]; exact hq)
          refine ⟨_, ⟨?_, by rw [u_ne (by omega)]; exact e4⟩, m1⟩
          unfold j_X5_write_60
          have e5 : (5 : Int32) + nI p = nI (5 + p) := nI_add 5 p
          rw [dr_mp, h.mm, e1, bd_t, if_neg (show ¬ nI 1 = 0 by decide), dr_mp, h.mm, e2, bd_t, dr_mp, h.mm, e5, ly, bd_t, dr_mp, h.mm, show ((1 : Int32)) = nI 1 from rfl, s2, bd_t, o_ones, bd_t, wri_on]
          rfl
        · rw [if_neg h4, if_neg h4, if_pos rfl]
          exact ⟨_, ⟨bad (nI 3) (by decide), u_s⟩, MU_0 hu _⟩
      · rw [if_neg h3, if_neg h3, if_pos rfl]
        exact ⟨_, ⟨bad (nI 2) (by decide), u_s⟩, MU_0 hu _⟩
    · rw [if_neg h2, if_neg h2, if_pos (show nI 0 = 0 from rfl)]
      exact ⟨_, ⟨b20, u_s⟩, MU_0 hu _⟩
  · rw [if_neg h1, if_neg h1, if_pos (show nI 0 = 0 from rfl)]
    exact ⟨_, ⟨b20, u_s⟩, MU_0 hu _⟩
theorem q_go (hg : Gi G) (h : RM S G m) (hI : IV v) (hu : MU u v hs sl tn tx) (i : Int32) : ∃ u', RES (m_X5_goBack (some m) i (mput S G u)) S G (fun e => if e = 0 then nI 1 else nI 2) u' (f_go v sl i).1 ∧ MUO u' v hs sl tn tx (f_go v sl i).2 := by
  have hn := hI.in_.2
  have bad : ∀ c, ¬ c = nI 0 → j_X5_goBack_28 (some m) i (some m) c (mput S G u) = some (nI 0, mput S G (u_2 u 0 0 c)) := by
    intro c hc
    unfold j_X5_goBack_28
    rw [dr_mp, h.mm, (q_no hg h hu hc).1, bd_t, if_pos (show nI 0 = 0 from rfl)]
    rfl
  unfold m_X5_goBack f_go
  rw [show ((0 : Int32)) = nI 0 from rfl, show ((1 : Int32)) = nI 1 from rfl, o_in, bd_t]
  by_cases h1 : a_in i (nI 0) (nI 1) = true
  · rw [if_pos h1, if_pos h1, if_neg (show ¬ nI 1 = nI 0 by decide)]
    obtain ⟨p, hp, rfl⟩ := in_n (by omega) h1
    rw [n_cl (by omega), dr_mp, h.mm, R_mp, dr_mp, h.k, N_mp, h.nk, ck_n (by omega) (by omega), mg_3 h]
    have k4 := hu.2.2.2.1 p (by omega)
    cases hz : sl p with
    | none =>
      rw [k4.1 hz, if_pos rfl]
      exact ⟨_, ⟨bad (nI 2) (by decide), u_s⟩, MU_0 hu _⟩
    | some w =>
      obtain ⟨a1, a2, a3⟩ := k4.2 w hz
      rw [a1, if_neg (show ¬ nI 1 = nI 0 by decide)]
      obtain ⟨e1, u1, e2, e3, e4⟩ := q_yes hg h hn hu
      obtain ⟨b1, b2, b3⟩ := (e3.2.2.2.1 p (by omega)).2 w hz
      have e := o_copies (u := u1) hg h (c := 7 + p) (d := 0) (by omega) (by omega) (by omega)
      have c0 : cr (cpk u1 (7 + p) 0 161 1) 0 (a_n w) w := cpk_cr b2 b3
      have m1 : MU (cpk u1 (7 + p) 0 161) w ((v :: hs).take 6) sl tn tx := MU_s1 e3 ⟨fun f hf => cpk_ne hf, fun k hk => by
        rw [cpk_1]
        show (if 161 * 0 ≤ k ∧ k < 161 * 0 + 161 then _ else _) = _
        rw [if_neg (by omega)]⟩ c0
      have x9 : cpk u1 (7 + p) 0 161 1 8 = w 12 0 := cr_12 (c := 0) (s := cpk u1 (7 + p) 0 161 1) c0
      refine ⟨_, ⟨?_, by rw [cpk_ne (by omega)]; exact e4⟩, m1⟩
      unfold j_X5_goBack_28
      have e7 : (7 : Int32) + nI p = nI (7 + p) := nI_add 7 p
      rw [dr_mp, h.mm, e1, bd_t, if_neg (show ¬ nI 1 = 0 by decide), dr_mp, h.mm, e2, bd_t, dr_mp, h.mm, e7]
      show bd (m_X5_copies (some m) (nI (7 + p)) (nI 0) _) _ = _
      rw [e, bd_t, dr_mp, h.mm, R_mp, dr_mp, h.s, N_mp, h.ns, show ((8 : Int32)) = nI 8 from rfl, ck_n (by omega) (by omega), mg_1 h, x9]
  · rw [if_neg h1, if_neg h1, if_pos rfl]
    exact ⟨_, ⟨bad (nI 1) (by decide), u_s⟩, MU_0 hu _⟩
theorem and_01 (z : Int32) : z &&& nI 1 = nI 0 ∨ z &&& nI 1 = nI 1 := by
  have h : (z &&& nI 1).toBitVec = BitVec.setWidth 32 (BitVec.ofBool (z.toBitVec.getLsbD 0)) := BitVec.and_one_eq_setWidth_ofBool_getLsbD
  cases hb : z.toBitVec.getLsbD 0 with
  | false =>
    rw [hb] at h
    exact Or.inl (Int32.toBitVec_inj.mp (h.trans (by decide)))
  | true =>
    rw [hb] at h
    exact Or.inr (Int32.toBitVec_inj.mp (h.trans (by decide)))
theorem q_meet (hg : Gi G) (h : RM S G m) (hI : IV v) (hu : MU u v hs sl tn tx) (i j : Int32) : ∃ u', RES (m_X5_meet (some m) i j (mput S G u)) S G (fun e => if e = 2 then nI 1 else nI 2) u' (f_meet v i j).1 ∧ MUO u' v hs sl tn tx (f_meet v i j).2 := by
  have hn := hI.in_.2
  have bad : ∀ c, ¬ c = nI 0 → j_X5_meet_29 (some m) i j (some m) c (mput S G u) = some (nI 0, mput S G (u_2 u 0 0 c)) := by
    intro c hc
    unfold j_X5_meet_29
    rw [dr_mp, h.mm, (q_no hg h hu hc).1, bd_t, if_pos (show nI 0 = 0 from rfl)]
    rfl
  have l1 : ∀ p, lo 1 p = 25 + p := fun p => rfl
  unfold m_X5_meet f_meet
  rw [o_isPerson, bd_t]
  by_cases h1 : a_in i (nI 0) (nI 7) = true
  · rw [if_pos h1, if_pos h1, if_neg (show ¬ nI 1 = 0 by decide), o_isPerson, bd_t]
    by_cases h2 : a_in j (nI 0) (nI 7) = true
    · rw [if_pos h2, if_pos h2, if_neg (show ¬ nI 1 = 0 by decide)]
      by_cases h3 : i = j
      · rw [if_pos h3, if_pos h3]
        exact ⟨_, ⟨bad (nI 2) (by decide), u_s⟩, MU_0 hu _⟩
      · rw [if_neg h3, if_neg h3]
        obtain ⟨p, hp, rfl⟩ := in_n (by omega) h1
        obtain ⟨q, hq, rfl⟩ := in_n (by omega) h2
        rw [n_cl (by omega), n_cl (by omega)]
        obtain ⟨e1, u1, e2, e3, e4⟩ := q_yes hg h hn hu
        have x1 := MU_at e3 (f := 1) (p := p) (k := 25 + p) (by unfold vd; omega) (by omega) (l1 p)
        have m1 := MU_set (w := v 1 p ^^^ mb q) hn e3 (f := 1) (p := p) (k := 25 + p) (by unfold vd; omega) (by omega) (by omega) (by omega) (by omega) (l1 p)
        have an : a_n (u_2 v 1 p (v 1 p ^^^ mb q)) = a_n v := an_e (u_ne (by omega))
        have x2 := MU_at m1 (f := 1) (p := q) (k := 25 + q) (by unfold vd; omega) (by omega) (l1 q)
        have m2 := MU_set (w := u_2 v 1 p (v 1 p ^^^ mb q) 1 q ^^^ mb p) (by rw [an]; exact hn) m1 (f := 1) (p := q) (k := 25 + q) (by unfold vd; omega) (by omega) (by omega) (by omega) (by omega) (l1 q)
        have x3 := MU_at m2 (f := 1) (p := p) (k := 25 + p) (by unfold vd; omega) (by omega) (l1 p)
        refine ⟨_, ⟨?_, by rw [u_ne (by omega), u_ne (by omega)]; exact e4⟩, m2⟩
        have e7 : ∀ k, k < 8 → (25 : Int32) + nI k = nI (25 + k) := fun k _ => nI_add 25 k
        have hbv : ∀ y : Int32, (y >>> (nI q &&& nI 31)) &&& nI 1 = if hb y (nI q) then nI 1 else nI 0 := by
          intro y
          unfold hb
          rcases and_01 (y >>> (nI q &&& nI 31)) with e | e
          · rw [e, decide_eq_false (show ¬ nI 0 = nI 1 by decide)]
            rfl
          · rw [e, decide_eq_true rfl]
            rfl
        simp (disch := omega) only [j_X5_meet_29, dr_mp, N_mp, R_mp, rf_mp, h.mm, h.s, h.ns, e1, e2, mg_1 h, ms_1 hg h, x1, x2, x3, e7, z_31, z_0, z_1, z_2, z_3, z_4, z_5, z_6, z_7, z_8, z_9, z_10, z_12, z_13, z_15, z_17, z_20, z_25, z_31, z_33, z_41, z_49, z_57, z_60, z_72, z_100, z_161, z_255, z_256, z_999, z_9999, of_n, nI_add, pk_mul, n_le, n_lt, n_eq, n_cl, ck_n, ck_d, ck_tr, le_t, bd_t, ir_t, bt_r, bt_l, b_t, b_f, b_lt, b_lf, b_ef, z_m1, b_i0, b_i1, z_not, z_ps, f_mb, f_rf, ↓reduceIte, Nat.zero_add, Nat.add_zero, Nat.one_mul, Nat.mul_one, Nat.zero_mul, Nat.mul_zero, not_true_eq_false, not_false_eq_true, hbv]
        rfl
    · rw [if_neg h2, if_neg h2, if_pos (show nI 0 = 0 from rfl)]
      exact ⟨_, ⟨bad (nI 1) (by decide), u_s⟩, MU_0 hu _⟩
  · rw [if_neg h1, if_neg h1, if_pos (show nI 0 = 0 from rfl)]
    exact ⟨_, ⟨bad (nI 1) (by decide), u_s⟩, MU_0 hu _⟩
end MK
