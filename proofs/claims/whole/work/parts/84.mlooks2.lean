/-! THE REFERENCE'S FACE: counts, settings -/
section MU2
variable {S : PH} {G : Nat → Nat} {m : Nat} {u v : AS} {hs : List AS} {sl : Nat → Option AS} {tn : Nat} {tx : Nat → Int32}
theorem q_cnt (hg : Gi G) (h : RM S G m) (hI : IV v) (hu : MU u v hs sl tn tx) (w : Int32) : ∃ u', RES (m_X5_count (some m) w (mput S G u)) S G (fun _ => nI 1) u' (f_cnt v (nI hs.length) w) ∧ MU u' v hs sl tn tx := by
  have hn := hI.in_.2
  unfold m_X5_count f_cnt
  rw [show ((0 : Int32)) = nI 0 from rfl, show (11 : Int32) = nI 11 from rfl, o_in, bd_t]
  by_cases h1 : a_in w (nI 0) (nI 11) = true
  · rw [if_pos h1, if_pos h1, if_neg (show ¬ nI 1 = nI 0 by decide)]
    obtain ⟨k, hk, rfl⟩ := in_n (by omega) h1
    rw [n_cl (by omega)]
    refine ⟨u_2 u 0 0 (nI 0), ⟨?_, u_s⟩, MU_0 hu _⟩
    have g2 : p_I (mput S G (u_2 u 0 0 (nI 0))) m 2 = nI hs.length := by
      rw [mg_i h 2 (by omega), u_ne (by omega)]
      exact hu.2.1.1
    unfold j_X5_count_16
    rw [dr_mp, h.mm, o_holds hg h, if_pos rfl, bd_t, if_neg (show ¬ nI 1 = 0 by decide), dr_mp, h.mm, o_counted (hM h) (hc0 h hu) hn hI rfl g2 (by omega), bd_t]
  · rw [if_neg h1, if_neg h1, if_pos rfl]
    refine ⟨_, ⟨?_, u_s⟩, MU_0 hu (nI 1)⟩
    unfold j_X5_count_16
    rw [show ((1 : Int32)) = nI 1 from rfl, dr_mp, h.mm, (q_no hg h hu (c := nI 1) (by decide)).1, bd_t, if_pos (show nI 0 = 0 from rfl)]
    rfl
theorem q_set1 (hg : Gi G) (h : RM S G m) (hI : IV v) (hu : MU u v hs sl tn tx) (i : Int32) : ∃ u', RES (m_X5_setting (some m) i (mput S G u)) S G (fun _ => nI 1) u' (f_set1 v i) ∧ MU u' v hs sl tn tx := by
  have hn := hI.in_.2
  unfold m_X5_setting f_set1
  rw [show ((0 : Int32)) = nI 0 from rfl, show (3 : Int32) = nI 3 from rfl, o_in, bd_t]
  by_cases h1 : a_in i (nI 0) (nI 3) = true
  · rw [if_pos h1, if_pos h1, if_neg (show ¬ nI 1 = nI 0 by decide)]
    obtain ⟨p, hp, rfl⟩ := in_n (by omega) h1
    rw [n_cl (by omega)]
    refine ⟨u_2 u 0 0 (nI 0), ⟨?_, u_s⟩, MU_0 hu _⟩
    have x1 := MU_at (MU_0 hu (nI 0)) (f := 11) (p := p) (k := 4 + p) (by unfold vd; omega) (by omega) lo_11
    have e7 : (4 : Int32) + nI p = nI (4 + p) := nI_add 4 p
    unfold j_X5_setting_15
    rw [dr_mp, h.mm, o_holds hg h, if_pos rfl, bd_t, if_neg (show ¬ nI 1 = 0 by decide), dr_mp, h.mm, R_mp, dr_mp, h.s, N_mp, h.ns, e7, ck_n (by omega) (by omega), n_cl (by omega), mg_1 h, x1]
  · rw [if_neg h1, if_neg h1, if_pos rfl]
    refine ⟨_, ⟨?_, u_s⟩, MU_0 hu (nI 1)⟩
    unfold j_X5_setting_15
    rw [show ((1 : Int32)) = nI 1 from rfl, dr_mp, h.mm, (q_no hg h hu (c := nI 1) (by decide)).1, bd_t, if_pos (show nI 0 = 0 from rfl)]
    rfl
end MU2
