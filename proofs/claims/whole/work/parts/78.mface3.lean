/-! THE REFERENCE'S FACE: discussions, rebuttals, writing, dropping, decisions -/
theorem an_ref {v : AS} : a_n (a_ref v) = a_n v := an_e (by
  show u_2 v 16 0 (v 16 0 + nI 1) 12 = v 12
  rw [u_ne (by omega)])
theorem an_pay {w : Int32} {v : AS} : ∀ n, a_pay w v n 12 = v 12
  | 0 => rfl
  | n + 1 => by
    have ih := an_pay (w := w) (v := v) n
    show (if hb w (nI n) then u_2 (a_pay w v n) 3 n (a_pay w v n 3 n + nI 1) else a_pay w v n) 12 = v 12
    split
    · rw [u_ne (by omega)]
      exact ih
    · exact ih
theorem an_cr {w : Int32} {v : AS} : ∀ n, (a_cr w v n).2 12 = v 12
  | 0 => rfl
  | n + 1 => by
    have ih := an_cr (w := w) (v := v) n
    show (if hb w (nI n) then (if (a_cr w v n).2 14 0 ≤ nI 0 then a_cr w v n else ((a_cr w v n).1 + nI 1, a_give (a_cr w v n).2 n (nI 1))) else a_cr w v n).2 12 = v 12
    split
    · split
      · exact ih
      · exact (an_give (v := (a_cr w v n).2) (p := n) (t := nI 1)).trans ih
    · exact ih
theorem an_disc {v : AS} {q : Nat} : a_n (a_disc v q).2 = a_n v := by
  unfold a_disc
  split
  · refine an_e ?_
    show u_r (a_dv v q) (20 + q) (a_bnr (a_dv v q (20 + q))) 12 = v 12
    rw [ur_ne (by omega)]
    show u_2 (a_pay (a_wri (v (20 + q))) v 8) 7 q _ 12 = v 12
    rw [u_ne (by omega)]
    exact an_pay 8
  · exact an_ref
theorem an_reb {v : AS} {q : Nat} : a_n (a_reb v q).2 = a_n v := by
  unfold a_reb
  split
  · refine an_e ?_
    show (a_cr (a_wri (a_rv v q (20 + q))) (a_rv v q) 8).2 12 = v 12
    rw [an_cr 8]
    show u_2 (u_r v (20 + q) (a_rl (v (20 + q)) (v 11 3))) 8 q (nI 1) 12 = v 12
    rw [u_ne (by omega), ur_ne (by omega)]
  · exact an_ref
section MH
variable {S : PH} {G : Nat → Nat} {m : Nat} {u v : AS} {hs : List AS} {sl : Nat → Option AS} {tn : Nat} {tx : Nat → Int32}
theorem q_discuss (hg : Gi G) (h : RM S G m) (hI : IV v) (hu : MU u v hs sl tn tx) (j : Int32) : ∃ u', RES (m_X5_discuss (some m) j (mput S G u)) S G (fun _ => nI 1) u' (f_discuss v j).1 ∧ MUO u' v hs sl tn tx (f_discuss v j).2 := by
  have hn := hI.in_.2
  unfold m_X5_discuss f_discuss
  rw [dr_mp, h.mm, o_isPaper hg h hI hu, bd_t]
  by_cases h2 : a_isP v j = true
  · rw [if_pos h2, if_pos h2, if_neg (show ¬ nI 1 = 0 by decide)]
    obtain ⟨q, hq, rfl⟩ := isP_n hI h2
    rw [n_cl (by omega)]
    obtain ⟨e1, u1, e2, e3, e4⟩ := q_yes hg h hn hu
    obtain ⟨u2, d1, d2, d3⟩ := o_discusses hg h hn hI e3.1 hq
    refine ⟨u2, ⟨?_, by rw [d3.1 0 (by omega)]; exact e4⟩, MU_s1 e3 d3 (by rw [an_disc]; exact d2)⟩
    unfold j_X5_discuss_14
    rw [dr_mp, h.mm, show ((0 : Int32)) = nI 0 from rfl, e1, bd_t, if_neg (show ¬ nI 1 = nI 0 by decide), dr_mp, h.mm, e2, bd_t, dr_mp, h.mm, d1, bd_t]
  · rw [if_neg h2, if_neg h2, if_pos (show nI 0 = 0 from rfl)]
    refine ⟨_, ⟨?_, u_s⟩, MU_0 hu (nI 1)⟩
    unfold j_X5_discuss_14
    rw [show ((1 : Int32)) = nI 1 from rfl, dr_mp, h.mm, (q_no hg h hu (c := nI 1) (by decide)).1, bd_t, if_pos (show nI 0 = 0 from rfl)]
    rfl
theorem q_rebut (hg : Gi G) (h : RM S G m) (hI : IV v) (hu : MU u v hs sl tn tx) (j : Int32) : ∃ u', RES (m_X5_rebut (some m) j (mput S G u)) S G (fun _ => nI 1) u' (f_rebut v j).1 ∧ MUO u' v hs sl tn tx (f_rebut v j).2 := by
  have hn := hI.in_.2
  unfold m_X5_rebut f_rebut
  rw [dr_mp, h.mm, o_isPaper hg h hI hu, bd_t]
  by_cases h2 : a_isP v j = true
  · rw [if_pos h2, if_pos h2, if_neg (show ¬ nI 1 = 0 by decide)]
    obtain ⟨q, hq, rfl⟩ := isP_n hI h2
    rw [n_cl (by omega)]
    obtain ⟨e1, u1, e2, e3, e4⟩ := q_yes hg h hn hu
    obtain ⟨u2, d1, d2, d3⟩ := o_rebuts hg h hn hI e3.1 hq
    refine ⟨u2, ⟨?_, by rw [d3.1 0 (by omega)]; exact e4⟩, MU_s1 e3 d3 (by rw [an_reb]; exact d2)⟩
    unfold j_X5_rebut_14
    rw [dr_mp, h.mm, show ((0 : Int32)) = nI 0 from rfl, e1, bd_t, if_neg (show ¬ nI 1 = nI 0 by decide), dr_mp, h.mm, e2, bd_t, dr_mp, h.mm, d1, bd_t]
  · rw [if_neg h2, if_neg h2, if_pos (show nI 0 = 0 from rfl)]
    refine ⟨_, ⟨?_, u_s⟩, MU_0 hu (nI 1)⟩
    unfold j_X5_rebut_14
    rw [show ((1 : Int32)) = nI 1 from rfl, dr_mp, h.mm, (q_no hg h hu (c := nI 1) (by decide)).1, bd_t, if_pos (show nI 0 = 0 from rfl)]
    rfl
/-- a row of the first chunk, at one place -/
theorem MU_set {w : Int32} {f p k : Nat} (hn : a_n v ≤ 8) (hu : MU u v hs sl tn tx) (hv : vd (a_n v) f p) (h2 : f ≠ 2) (h3 : f ≠ 3) (h30 : f ≠ 30) (h12 : f ≠ 12) (hk : lo f p = k) : MU (u_2 u 1 k w) (u_2 v f p w) hs sl tn tx := by
  have hlt := lo_lt hn hv
  have ec := cr_set (w := w) hn hu.1 hv h2 h3 h30
  rw [show 161 * 0 + lo f p = k by omega] at ec
  refine MU_s1 hu ⟨fun g hg => u_ne hg, fun i hi => u_k (by omega)⟩ ?_
  rw [u_self, an_e (show u_2 v f p w 12 = v 12 from u_ne (Ne.symm h12))]
  exact ec
theorem MU_at {f p k : Nat} (hu : MU u v hs sl tn tx) (hv : vd (a_n v) f p) (h30 : f ≠ 30) (hk : lo f p = k) : u 1 k = v f p := by
  have e := hu.1 f p hv
  rw [show 161 * 0 + lo f p = k by omega] at e
  unfold vl at e
  rwa [if_neg h30] at e
theorem q_bring (hg : Gi G) (h : RM S G m) (hI : IV v) (hu : MU u v hs sl tn tx) (i : Int32) : ∃ u', RES (m_X5_bring (some m) i (mput S G u)) S G (fun e => if e = 0 then nI 1 else nI 2) u' (f_bring v i).1 ∧ MUO u' v hs sl tn tx (f_bring v i).2 := by
  have hn := hI.in_.2
  have bad : ∀ c, ¬ c = nI 0 → j_X5_bring_35 (some m) i (some m) c (mput S G u) = some (nI 0, mput S G (u_2 u 0 0 c)) := by
    intro c hc
    unfold j_X5_bring_35
    rw [dr_mp, h.mm, (q_no hg h hu hc).1, bd_t, if_pos (show nI 0 = 0 from rfl)]
    rfl
  have l15 : lo 15 0 = 2 := rfl
  have l14 : lo 14 0 = 0 := rfl
  unfold m_X5_bring f_bring
  rw [show ((1 : Int32)) = nI 1 from rfl, show (999 : Int32) = nI 999 from rfl, o_in, bd_t]
  by_cases h1 : a_in i (nI 1) (nI 999) = true
  · have ev := MU_at hu (f := 15) (p := 0) (k := 2) (by unfold vd; omega) (by omega) l15
    rw [if_pos h1, if_pos h1, if_neg (show ¬ nI 1 = 0 by decide), dr_mp, h.mm, R_mp, dr_mp, h.s, N_mp, h.ns, show ((2 : Int32)) = nI 2 from rfl, ck_n (by omega) (by omega), mg_1 h, ev, show (9999 : Int32) = nI 9999 from rfl]
    by_cases h2 : v 15 0 + i ≤ nI 9999
    · rw [if_pos h2, if_pos h2]
      obtain ⟨e1, u1, e2, e3, e4⟩ := q_yes hg h hn hu
      have x15 := MU_at e3 (f := 15) (p := 0) (k := 2) (by unfold vd; omega) (by omega) l15
      have m1 := MU_set (w := v 15 0 + i) hn e3 (f := 15) (p := 0) (k := 2) (by unfold vd; omega) (by omega) (by omega) (by omega) (by omega) l15
      have an1 : a_n (u_2 v 15 0 (v 15 0 + i)) = a_n v := an_e (u_ne (by omega))
      have x14 := MU_at m1 (f := 14) (p := 0) (k := 0) (by unfold vd; omega) (by omega) l14
      have z14 : u_2 v 15 0 (v 15 0 + i) 14 0 = v 14 0 := by rw [u_ne (by omega)]
      rw [z14] at x14
      have m2 := MU_set (w := v 14 0 + i) (by rw [an1]; exact hn) m1 (f := 14) (p := 0) (k := 0) (by unfold vd; omega) (by omega) (by omega) (by omega) (by omega) l14
      refine ⟨u_2 (u_2 u1 1 2 (v 15 0 + i)) 1 0 (v 14 0 + i), ⟨?_, ?_⟩, m2⟩
      · have z0 : u_2 (u_2 u1 1 2 (v 15 0 + i)) 1 0 (v 14 0 + i) 1 0 = v 14 0 + i := u_s
        simp (disch := omega) only [j_X5_bring_35, dr_mp, N_mp, R_mp, rf_mp, h.mm, h.s, h.ns, e1, e2, mg_1 h, ms_1 hg h, x15, x14, z0, z_0, z_1, z_2, z_3, z_4, z_5, z_6, z_7, z_8, z_9, z_10, z_12, z_13, z_15, z_17, z_20, z_25, z_31, z_33, z_41, z_49, z_57, z_60, z_72, z_100, z_161, z_255, z_256, z_999, z_9999, of_n, nI_add, pk_mul, n_le, n_lt, n_eq, n_cl, ck_n, ck_d, ck_tr, le_t, bd_t, ir_t, bt_r, bt_l, b_t, b_f, b_lt, b_lf, b_ef, z_m1, b_i0, b_i1, z_not, z_ps, f_mb, f_rf, ↓reduceIte, Nat.zero_add, Nat.add_zero, Nat.one_mul, Nat.mul_one, Nat.zero_mul, Nat.mul_zero, not_true_eq_false, not_false_eq_true]
      · rw [u_ne (by omega), u_ne (by omega)]
        exact e4
    · rw [if_neg h2, if_neg h2]
      exact ⟨_, ⟨bad (nI 2) (by decide), u_s⟩, MU_0 hu _⟩
  · rw [if_neg h1, if_neg h1, if_pos (show nI 0 = 0 from rfl)]
    exact ⟨_, ⟨bad (nI 1) (by decide), u_s⟩, MU_0 hu _⟩
end MH
