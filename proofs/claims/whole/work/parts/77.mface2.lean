/-! THE REFERENCE'S FACE: orders -/
theorem an_e {v w : AS} (h : w 12 = v 12) : a_n w = a_n v := by unfold a_n; rw [h]
theorem an_give {v : AS} {p : Nat} {t : Int32} : a_give v p t 12 = v 12 := by unfold a_give; rw [u_ne (by omega), u_ne (by omega)]
theorem an_wk {v : AS} : ∀ n, (a_wk v n).2 12 = v 12
  | 0 => rfl
  | n + 1 => by
    have ih := an_wk (v := v) n
    show (if (a_wk v n).2 14 0 < v 11 2 then a_wk v n else _).2 12 = v 12
    split
    · exact ih
    · exact (an_give (v := (a_wk v n).2) (p := n) (t := v 11 2)).trans ih
theorem an_week {v : AS} : a_n (a_week v).2 = a_n v := an_e (by
  show u_2 (a_wk v 8).2 13 0 ((a_wk v 8).2 13 0 + nI 1) 12 = v 12
  rw [u_ne (by omega)]
  exact an_wk 8)
theorem an_take {v : AS} {p q : Nat} : a_n (a_take v p q).2 = a_n v := an_e (by
  unfold a_take
  split
  · show u_2 (u_2 v (20 + q) p (nI 10)) 3 p (v 3 p + nI 2) 12 = v 12
    rw [u_ne (by omega), u_ne (by omega)]
  · show u_2 v 16 0 (v 16 0 + nI 1) 12 = v 12
    rw [u_ne (by omega)])
section MG
variable {S : PH} {G : Nat → Nat} {m : Nat} {u v : AS} {hs : List AS} {sl : Nat → Option AS} {tn : Nat} {tx : Nat → Int32}
theorem q_week (hg : Gi G) (h : RM S G m) (hI : IV v) (hu : MU u v hs sl tn tx) : ∃ u', RES (m_X5_week (some m) (mput S G u)) S G (fun _ => nI 1) u' (f_week v).1 ∧ MUO u' v hs sl tn tx (f_week v).2 := by
  have hn := hI.in_.2
  have ev : u 1 1 = v 13 0 := hu.1 13 0 (by unfold vd; omega)
  unfold m_X5_week f_week
  rw [dr_mp, h.mm, R_mp, dr_mp, h.s, N_mp, h.ns, show ((1 : Int32)) = nI 1 from rfl, ck_n (by omega) (by omega), mg_1 h, ev, show (999 : Int32) = nI 999 from rfl]
  by_cases h1 : nI 999 ≤ v 13 0
  · rw [if_pos h1, if_pos h1]
    refine ⟨_, ⟨?_, u_s⟩, MU_0 hu (nI 1)⟩
    unfold j_X5_week_18
    rw [dr_mp, h.mm, (q_no hg h hu (c := nI 1) (by decide)).1, bd_t, if_pos (show nI 0 = 0 from rfl)]
    rfl
  · rw [if_neg h1, if_neg h1]
    obtain ⟨e1, u1, e2, e3, e4⟩ := q_yes hg h hn hu
    obtain ⟨u2, d1, d2, d3⟩ := o_week hg h hn e3.1
    refine ⟨u2, ⟨?_, by rw [d3.1 0 (by omega)]; exact e4⟩, MU_s1 e3 d3 (by rw [an_week]; exact d2)⟩
    unfold j_X5_week_18
    rw [dr_mp, h.mm, show ((0 : Int32)) = nI 0 from rfl, e1, bd_t, if_neg (show ¬ nI 1 = nI 0 by decide), dr_mp, h.mm, e2, bd_t, dr_mp, h.mm, d1, bd_t]
theorem o_isPaper (hg : Gi G) (h : RM S G m) (hI : IV v) (hu : MU u v hs sl tn tx) (i : Int32) : m_X5_isPaper (some m) i (mput S G u) = some (if a_isP v i then nI 1 else nI 0, mput S G u) := by
  obtain ⟨en, h8⟩ := hI.in_
  have ev : u 1 8 = v 12 0 := hu.1 12 0 (by unfold vd; omega)
  unfold m_X5_isPaper
  rw [dr_mp, h.mm, R_mp, dr_mp, h.s, N_mp, h.ns, show ((8 : Int32)) = nI 8 from rfl, ck_n (by omega) (by omega), mg_1 h, ev, en, o_in, bd_t]
  have hb : a_in i (nI 0) (nI (a_n v) - 1) = a_isP v i := by
    have e1 : ∀ k, k < 9 → (nI k - 1).toInt = (k : Int) - 1 := by decide
    have k1 := e1 (a_n v) (by omega)
    have z0 : (nI 0).toInt = 0 := by decide
    have z8 : (nI 8).toInt = 8 := by decide
    have zn : (nI (a_n v)).toInt = (a_n v : Int) := nI_toInt (by omega)
    unfold a_in a_isP
    rw [en]
    refine Bool.eq_iff_iff.mpr ?_
    simp only [Bool.and_eq_true, Bool.not_eq_true', decide_eq_false_iff_not, i_lt, i_le, k1, z0, z8, zn]
    omega
  rw [show ((0 : Int32)) = nI 0 from rfl, hb]
  refine ck_d ?_
  cases a_isP v i <;> decide
theorem q_take (hg : Gi G) (h : RM S G m) (hI : IV v) (hu : MU u v hs sl tn tx) (i j : Int32) : ∃ u', RES (m_X5_take (some m) i j (mput S G u)) S G (fun _ => nI 1) u' (f_take v i j).1 ∧ MUO u' v hs sl tn tx (f_take v i j).2 := by
  have hn := hI.in_.2
  have bad : j_X5_take_21 (some m) i j (some m) (nI 1) (mput S G u) = some (nI 0, mput S G (u_2 u 0 0 (nI 1))) := by
    unfold j_X5_take_21
    rw [dr_mp, h.mm, (q_no hg h hu (c := nI 1) (by decide)).1, bd_t, if_pos (show nI 0 = 0 from rfl)]
    rfl
  unfold m_X5_take f_take
  rw [o_isPerson, bd_t]
  by_cases h1 : a_in i (nI 0) (nI 7) = true
  · rw [if_pos h1, if_pos h1, if_neg (show ¬ nI 1 = 0 by decide), dr_mp, h.mm, o_isPaper hg h hI hu, bd_t]
    by_cases h2 : a_isP v j = true
    · rw [if_pos h2, if_pos h2, if_neg (show ¬ nI 1 = 0 by decide)]
      obtain ⟨p, hp, rfl⟩ := in_n (by omega) h1
      obtain ⟨q, hq, rfl⟩ := isP_n hI h2
      rw [n_cl (by omega), n_cl (by omega)]
      obtain ⟨e1, u1, e2, e3, e4⟩ := q_yes hg h hn hu
      obtain ⟨u2, d1, d2, d3⟩ := o_takes hg h hn hI e3.1 (p := p) (q := q) (by omega) hq
      refine ⟨u2, ⟨?_, by rw [d3.1 0 (by omega)]; exact e4⟩, MU_s1 e3 d3 (by rw [an_take]; exact d2)⟩
      unfold j_X5_take_21
      rw [dr_mp, h.mm, show ((0 : Int32)) = nI 0 from rfl, e1, bd_t, if_neg (show ¬ nI 1 = nI 0 by decide), dr_mp, h.mm, e2, bd_t, dr_mp, h.mm, d1, bd_t]
    · rw [if_neg h2, if_neg h2, if_pos (show nI 0 = 0 from rfl)]
      exact ⟨_, ⟨bad, u_s⟩, MU_0 hu _⟩
  · rw [if_neg h1, if_neg h1, if_pos (show nI 0 = 0 from rfl)]
    exact ⟨_, ⟨bad, u_s⟩, MU_0 hu _⟩
end MG
