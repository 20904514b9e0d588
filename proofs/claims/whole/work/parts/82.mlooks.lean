/-! THE REFERENCE'S FACE: looks -/
section ML
variable {S : PH} {G : Nat → Nat} {m : Nat} {u v : AS} {hs : List AS} {sl : Nat → Option AS} {tn : Nat} {tx : Nat → Int32}
theorem hc0 (h : RM S G m) (hu : MU u v hs sl tn tx) : cr (p_I (mput S G (u_2 u 0 0 (nI 0))) (rf (mput S G (u_2 u 0 0 (nI 0))) m 1)) 0 (a_n v) v := by
  rw [rf_mp, mg_1 h, u_ne (by omega)]
  exact hu.1
theorem q_per (hg : Gi G) (h : RM S G m) (hI : IV v) (hu : MU u v hs sl tn tx) (i w : Int32) : ∃ u', RES (m_X5_personOf (some m) i w (mput S G u)) S G (fun e => if e = 2 then nI 1 else nI 2) u' (f_per v i w) ∧ MU u' v hs sl tn tx := by
  have hn := hI.in_.2
  have bad : ∀ c, ¬ c = nI 0 → j_X5_personOf_27 (some m) i w (some m) c (mput S G u) = some (nI 0, mput S G (u_2 u 0 0 c)) := by
    intro c hc
    unfold j_X5_personOf_27
    rw [dr_mp, h.mm, (q_no hg h hu hc).1, bd_t, if_pos (show nI 0 = 0 from rfl)]
    rfl
  unfold m_X5_personOf f_per
  rw [o_isPerson, bd_t]
  by_cases h1 : a_in i (nI 0) (nI 7) = true
  · rw [if_pos h1, if_pos h1, if_neg (show ¬ nI 1 = 0 by decide), show ((0 : Int32)) = nI 0 from rfl, show (8 : Int32) = nI 8 from rfl, o_in, bd_t]
    by_cases h2 : a_in w (nI 0) (nI 8) = true
    · rw [if_pos h2, if_pos h2, if_neg (show ¬ nI 1 = nI 0 by decide)]
      obtain ⟨p, hp, rfl⟩ := in_n (by omega) h1
      obtain ⟨k, hk, rfl⟩ := in_n (by omega) h2
      rw [n_cl (by omega), n_cl (by omega)]
      refine ⟨u_2 u 0 0 (nI 0), ⟨?_, u_s⟩, MU_0 hu _⟩
      unfold j_X5_personOf_27
      rw [dr_mp, h.mm, o_holds hg h, if_pos rfl, bd_t, if_neg (show ¬ nI 1 = 0 by decide), dr_mp, h.mm, o_person (hM h) (hc0 h hu) hn hI rfl (by omega) (by omega), bd_t]
    · rw [if_neg h2, if_neg h2, if_pos rfl]
      exact ⟨_, ⟨bad (nI 2) (by decide), u_s⟩, MU_0 hu _⟩
  · rw [if_neg h1, if_neg h1, if_pos (show nI 0 = 0 from rfl)]
    exact ⟨_, ⟨bad (nI 1) (by decide), u_s⟩, MU_0 hu _⟩
theorem q_pap (hg : Gi G) (h : RM S G m) (hI : IV v) (hu : MU u v hs sl tn tx) (i w : Int32) : ∃ u', RES (m_X5_paperOf (some m) i w (mput S G u)) S G (fun e => if e = 2 then nI 1 else nI 2) u' (f_pap v i w) ∧ MU u' v hs sl tn tx := by
  have hn := hI.in_.2
  have bad : ∀ c, ¬ c = nI 0 → j_X5_paperOf_28 (some m) i w (some m) c (mput S G u) = some (nI 0, mput S G (u_2 u 0 0 c)) := by
    intro c hc
    unfold j_X5_paperOf_28
    rw [dr_mp, h.mm, (q_no hg h hu hc).1, bd_t, if_pos (show nI 0 = 0 from rfl)]
    rfl
  unfold m_X5_paperOf f_pap
  rw [dr_mp, h.mm, o_isPaper hg h hI hu, bd_t]
  by_cases h1 : a_isP v i = true
  · rw [if_pos h1, if_pos h1, if_neg (show ¬ nI 1 = 0 by decide), show ((0 : Int32)) = nI 0 from rfl, show (9 : Int32) = nI 9 from rfl, o_in, bd_t]
    by_cases h2 : a_in w (nI 0) (nI 9) = true
    · rw [if_pos h2, if_pos h2, if_neg (show ¬ nI 1 = nI 0 by decide)]
      obtain ⟨q, hq, rfl⟩ := isP_n hI h1
      obtain ⟨k, hk, rfl⟩ := in_n (by omega) h2
      rw [n_cl (by omega), n_cl (by omega)]
      refine ⟨u_2 u 0 0 (nI 0), ⟨?_, u_s⟩, MU_0 hu _⟩
      unfold j_X5_paperOf_28
      rw [dr_mp, h.mm, o_holds hg h, if_pos rfl, bd_t, if_neg (show ¬ nI 1 = 0 by decide), dr_mp, h.mm, o_paper (hM h) (hc0 h hu) hn hq (by omega), bd_t]
    · rw [if_neg h2, if_neg h2, if_pos rfl]
      exact ⟨_, ⟨bad (nI 2) (by decide), u_s⟩, MU_0 hu _⟩
  · rw [if_neg h1, if_neg h1, if_pos (show nI 0 = 0 from rfl)]
    exact ⟨_, ⟨bad (nI 1) (by decide), u_s⟩, MU_0 hu _⟩
theorem q_sco (hg : Gi G) (h : RM S G m) (hI : IV v) (hu : MU u v hs sl tn tx) (i j : Int32) : ∃ u', RES (m_X5_score (some m) i j (mput S G u)) S G (fun _ => nI 1) u' (f_sco v i j) ∧ MU u' v hs sl tn tx := by
  have hn := hI.in_.2
  have bad : ∀ c, ¬ c = nI 0 → j_X5_score_21 (some m) i j (some m) c (mput S G u) = some (nI 0, mput S G (u_2 u 0 0 c)) := by
    intro c hc
    unfold j_X5_score_21
    rw [dr_mp, h.mm, (q_no hg h hu hc).1, bd_t, if_pos (show nI 0 = 0 from rfl)]
    rfl
  unfold m_X5_score f_sco
  rw [o_isPerson, bd_t]
  by_cases h1 : a_in i (nI 0) (nI 7) = true
  · rw [if_pos h1, if_pos h1, if_neg (show ¬ nI 1 = 0 by decide), dr_mp, h.mm, o_isPaper hg h hI hu, bd_t]
    by_cases h2 : a_isP v j = true
    · rw [if_pos h2, if_pos h2, if_neg (show ¬ nI 1 = 0 by decide)]
      obtain ⟨p, hp, rfl⟩ := in_n (by omega) h1
      obtain ⟨q, hq, rfl⟩ := isP_n hI h2
      rw [n_cl (by omega), n_cl (by omega)]
      refine ⟨u_2 u 0 0 (nI 0), ⟨?_, u_s⟩, MU_0 hu _⟩
      unfold j_X5_score_21
      rw [show ((0 : Int32)) = nI 0 from rfl, dr_mp, h.mm, o_holds hg h, if_pos rfl, bd_t, if_neg (show ¬ nI 1 = nI 0 by decide), dr_mp, h.mm, o_score (hM h) (hc0 h hu) hn (by omega) hq, bd_t]
    · rw [if_neg h2, if_neg h2, if_pos (show nI 0 = 0 from rfl)]
      exact ⟨_, ⟨bad (nI 1) (by decide), u_s⟩, MU_0 hu _⟩
  · rw [if_neg h1, if_neg h1, if_pos (show nI 0 = 0 from rfl)]
    exact ⟨_, ⟨bad (nI 1) (by decide), u_s⟩, MU_0 hu _⟩
theorem q_why (hg : Gi G) (h : RM S G m) (hI : IV v) (hu : MU u v hs sl tn tx) (i j : Int32) : ∃ u', RES (m_X5_whyNot (some m) i j (mput S G u)) S G (fun _ => nI 1) u' (f_why v i j) ∧ MU u' v hs sl tn tx := by
  have hn := hI.in_.2
  have bad : ∀ c, ¬ c = nI 0 → j_X5_whyNot_21 (some m) i j (some m) c (mput S G u) = some (nI 0, mput S G (u_2 u 0 0 c)) := by
    intro c hc
    unfold j_X5_whyNot_21
    rw [dr_mp, h.mm, (q_no hg h hu hc).1, bd_t, if_pos (show nI 0 = 0 from rfl)]
    rfl
  unfold m_X5_whyNot f_why
  rw [o_isPerson, bd_t]
  by_cases h1 : a_in i (nI 0) (nI 7) = true
  · rw [if_pos h1, if_pos h1, if_neg (show ¬ nI 1 = 0 by decide), dr_mp, h.mm, o_isPaper hg h hI hu, bd_t]
    by_cases h2 : a_isP v j = true
    · rw [if_pos h2, if_pos h2, if_neg (show ¬ nI 1 = 0 by decide)]
      obtain ⟨p, hp, rfl⟩ := in_n (by omega) h1
      obtain ⟨q, hq, rfl⟩ := isP_n hI h2
      rw [n_cl (by omega), n_cl (by omega)]
      refine ⟨u_2 u 0 0 (nI 0), ⟨?_, u_s⟩, MU_0 hu _⟩
      unfold j_X5_whyNot_21
      rw [show ((0 : Int32)) = nI 0 from rfl, dr_mp, h.mm, o_holds hg h, if_pos rfl, bd_t, if_neg (show ¬ nI 1 = nI 0 by decide), dr_mp, h.mm, o_why (t := 0) (hM h) (hc0 h hu) hn (by omega) hq hI.s1.1 hI.s1.2 (hI.de (by omega)).1 (hI.de (by omega)).2 (rev_on _), bd_t]
    · rw [if_neg h2, if_neg h2, if_pos (show nI 0 = 0 from rfl)]
      exact ⟨_, ⟨bad (nI 1) (by decide), u_s⟩, MU_0 hu _⟩
  · rw [if_neg h1, if_neg h1, if_pos (show nI 0 = 0 from rfl)]
    exact ⟨_, ⟨bad (nI 1) (by decide), u_s⟩, MU_0 hu _⟩
theorem q_best (hg : Gi G) (h : RM S G m) (hI : IV v) (hu : MU u v hs sl tn tx) (j : Int32) : ∃ u', RES (m_X5_bestReviewer (some m) j (mput S G u)) S G (fun _ => nI 1) u' (f_best v j) ∧ MU u' v hs sl tn tx := by
  have hn := hI.in_.2
  have bad : ∀ c, ¬ c = nI 0 → j_X5_bestReviewer_14 (some m) j (some m) c (mput S G u) = some (nI 0, mput S G (u_2 u 0 0 c)) := by
    intro c hc
    unfold j_X5_bestReviewer_14
    rw [dr_mp, h.mm, (q_no hg h hu hc).1, bd_t, if_pos (show nI 0 = 0 from rfl)]
    rfl
  unfold m_X5_bestReviewer f_best
  rw [dr_mp, h.mm, o_isPaper hg h hI hu, bd_t]
  by_cases h2 : a_isP v j = true
  · rw [if_pos h2, if_pos h2, if_neg (show ¬ nI 1 = 0 by decide)]
    obtain ⟨q, hq, rfl⟩ := isP_n hI h2
    rw [n_cl (by omega)]
    refine ⟨u_2 u 0 0 (nI 0), ⟨?_, u_s⟩, MU_0 hu _⟩
    unfold j_X5_bestReviewer_14
    rw [show ((0 : Int32)) = nI 0 from rfl, dr_mp, h.mm, o_holds hg h, if_pos rfl, bd_t, if_neg (show ¬ nI 1 = nI 0 by decide), dr_mp, h.mm, o_best (hM h) (hc0 h hu) hn hI rfl hq, bd_t]
  · rw [if_neg h2, if_neg h2, if_pos (show nI 0 = 0 from rfl)]
    exact ⟨_, ⟨bad (nI 1) (by decide), u_s⟩, MU_0 hu _⟩
end ML
