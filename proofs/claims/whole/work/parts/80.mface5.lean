/-! THE REFERENCE'S FACE: snapshots, decisions, writing -/
section MJ
variable {S : PH} {G : Nat → Nat} {m : Nat} {u v : AS} {hs : List AS} {sl : Nat → Option AS} {tn : Nat} {tx : Nat → Int32}
theorem cr_12 {c : Nat} {w : AS} {s : Nat → Int32} {n : Nat} (h : cr s c n w) : s (161 * c + 8) = w 12 0 := h 12 0 (by unfold vd; omega)
theorem q_keep (hg : Gi G) (h : RM S G m) (hI : IV v) (hu : MU u v hs sl tn tx) (i : Int32) : ∃ u', RES (m_X5_keep (some m) i (mput S G u)) S G (fun _ => nI 1) u' (f_keep v i) ∧ MU u' v hs (fun j => if a_in i (nI 0) (nI 1) ∧ j = i.toNatClampNeg then some v else sl j) tn tx := by
  have hn := hI.in_.2
  unfold m_X5_keep f_keep
  rw [show ((0 : Int32)) = nI 0 from rfl, show ((1 : Int32)) = nI 1 from rfl, o_in, bd_t]
  by_cases h1 : a_in i (nI 0) (nI 1) = true
  · rw [if_pos h1, if_pos h1, if_neg (show ¬ nI 1 = nI 0 by decide)]
    obtain ⟨p, hp, rfl⟩ := in_n (by omega) h1
    rw [n_cl (by omega)]
    have es : (fun j => if a_in (nI p) (nI 0) (nI 1) = true ∧ j = p then some v else sl j) = fun j => if j = p then some v else sl j := by
      funext j
      by_cases e : j = p
      · rw [if_pos e, if_pos ⟨h1, e⟩]
      · rw [if_neg e, if_neg (fun z => e z.2)]
    rw [es]
    obtain ⟨k1, k2, k3, k4, k5⟩ := hu
    have U1 : u_2 u 0 0 (nI 0) 1 = u 1 := u_ne (by omega)
    have e := o_copies (u := u_2 u 0 0 (nI 0)) hg h (c := 0) (d := 7 + p) (by omega) (by omega) (by omega)
    have co : ∀ e n z, n ≤ 8 → e ≠ 7 + p → cr (u 1) e n z → cr (u_2 (cpk (u_2 u 0 0 (nI 0)) 0 (7 + p) 161) 3 p (nI 1) 1) e n z := fun e n z h8 he hc => by
      rw [u_ne (by omega)]
      exact cpk_co h8 he (by rw [U1]; exact hc)
    have c0 := co 0 _ _ hn (by omega) k1
    have x8 := cr_12 c0
    have f2 : ∀ f, f ≠ 0 → f ≠ 1 → f ≠ 3 → u_2 (cpk (u_2 u 0 0 (nI 0)) 0 (7 + p) 161) 3 p (nI 1) f = u f := fun f a b c => by rw [u_ne c, cpk_ne b, u_ne a]
    refine ⟨u_2 (cpk (u_2 u 0 0 (nI 0)) 0 (7 + p) 161) 3 p (nI 1), ⟨?_, by rw [u_ne (by omega), cpk_ne (by omega), u_s]⟩, c0, by rw [f2 2 (by omega) (by omega) (by omega)]; exact k2, fun i z hz => ?_, fun j hj => ⟨fun hz => ?_, fun z hz => ?_⟩, by rw [f2 5 (by omega) (by omega) (by omega), f2 4 (by omega) (by omega) (by omega)]; exact k5⟩
    · unfold j_X5_keep_15
      have e7 : (7 : Int32) + nI p = nI (7 + p) := nI_add 7 p
      rw [dr_mp, h.mm, o_holds hg h, if_pos rfl, bd_t, if_neg (show ¬ nI 1 = 0 by decide), dr_mp, h.mm, e7]
      show bd (m_X5_copies (some m) (nI 0) (nI (7 + p)) _) _ = _
      have x9 : u_2 (cpk (u_2 u 0 0 (nI 0)) 0 (7 + p) 161) 3 p (nI 1) 1 8 = v 12 0 := x8
      rw [e, bd_t, dr_mp, h.mm, R_mp, dr_mp, h.k, N_mp, h.nk, ck_n (by omega) (by omega), n_cl (by omega), show ((1 : Int32)) = nI 1 from rfl, ms_3 hg h, le_t, dr_mp, h.mm, R_mp, dr_mp, h.s, N_mp, h.ns, show ((8 : Int32)) = nI 8 from rfl, ck_n (by omega) (by omega), mg_1 h, x9]
    · have k := k3 i z hz
      have hlt := (List.getElem?_eq_some_iff.mp hz).1
      exact ⟨k.1, co _ _ _ k.1 (by omega) k.2⟩
    · have hz : (if j = p then some v else sl j) = none := hz
      by_cases e : j = p
      · rw [if_pos e] at hz; cases hz
      · rw [if_neg e] at hz
        rw [u_k e, cpk_ne (by omega), u_ne (by omega)]
        exact (k4 j hj).1 hz
    · have hz : (if j = p then some v else sl j) = some z := hz
      by_cases e : j = p
      · rw [if_pos e] at hz
        cases hz
        subst e
        refine ⟨u_s, hn, ?_⟩
        rw [u_ne (by omega)]
        exact cpk_cr hn (by rw [U1]; exact k1)
      · rw [if_neg e] at hz
        obtain ⟨a1, a2, a3⟩ := (k4 j hj).2 z hz
        refine ⟨?_, a2, co _ _ _ a2 (by omega) a3⟩
        rw [u_k e, cpk_ne (by omega), u_ne (by omega)]
        exact a1
  · rw [if_neg h1, if_neg h1, if_pos rfl]
    have es : (fun j => if a_in i (nI 0) (nI 1) = true ∧ j = i.toNatClampNeg then some v else sl j) = sl := by
      funext j
      rw [if_neg (fun z => h1 z.1)]
    rw [es]
    refine ⟨_, ⟨?_, u_s⟩, MU_0 hu (nI 1)⟩
    unfold j_X5_keep_15
    rw [dr_mp, h.mm, (q_no hg h hu (c := nI 1) (by decide)).1, bd_t, if_pos (show nI 0 = 0 from rfl)]
    rfl
theorem q_decide (hg : Gi G) (h : RM S G m) (hI : IV v) (hu : MU u v hs sl tn tx) (j : Int32) : ∃ u', RES (m_X5_decide (some m) j (mput S G u)) S G (fun e => if e = 2 then nI 1 else nI 2) u' (f_decide v j).1 ∧ MUO u' v hs sl tn tx (f_decide v j).2 := by
  have hn := hI.in_.2
  have bad : ∀ c, ¬ c = nI 0 → j_X5_decide_26 (some m) j (some m) c (mput S G u) = some (nI 0, mput S G (u_2 u 0 0 c)) := by
    intro c hc
    unfold j_X5_decide_26
    rw [dr_mp, h.mm, (q_no hg h hu hc).1, bd_t, if_pos (show nI 0 = 0 from rfl)]
    rfl
  unfold m_X5_decide f_decide
  rw [dr_mp, h.mm, o_isPaper hg h hI hu, bd_t]
  by_cases h2 : a_isP v j = true
  · rw [if_pos h2, if_pos h2, if_neg (show ¬ nI 1 = 0 by decide)]
    obtain ⟨q, hq, rfl⟩ := isP_n hI h2
    rw [n_cl (by omega)]
    have sc := o_canDecide (hM (u := u) h) (by rw [rf_mp, mg_1 h]; exact hu.1) hn hq
    rw [dr_mp, h.mm, sc, bd_t]
    by_cases h4 : a_cd v q = true
    · rw [if_pos h4, if_pos h4, if_neg (show ¬ nI 1 = 0 by decide)]
      obtain ⟨e1, u1, e2, e3, e4⟩ := q_yes hg h hn hu
      have s1 := o_sum (hM (u := u1) h) (by rw [rf_mp, mg_1 h]; exact e3.1) hn hq
      have s2 := o_wri (hM (u := u1) h) (by rw [rf_mp, mg_1 h]; exact e3.1) hn hq
      have fin : ∀ d, MU (u_2 u1 1 (57 + 13 * q + 4) (nI d)) (u_2 v 9 q (nI d)) ((v :: hs).take 6) sl tn tx := fun d => MU_set hn e3 (by unfold vd; omega) (by omega) (by omega) (by omega) (by omega) (lo_5 (by omega) (by omega))
      have ly := fun d => o_lay (u := u1) hg h (q := q) (w := 4) (by omega) (by omega) (nI d)
      have start : j_X5_decide_26 (some m) (nI q) (some m) (0 : Int32) (mput S G u) = if a_sum (v (20 + q)) < nI 6 * a_bc (a_wri (v (20 + q))) then j_X5_decide_63 (some m) (nI q) (0 : Int32) (mput S G u1) else j_X5_decide_63 (some m) (nI q) (1 : Int32) (mput S G u1) := by
        unfold j_X5_decide_26
        rw [show ((0 : Int32)) = nI 0 from rfl, dr_mp, h.mm, e1, bd_t, if_neg (show ¬ nI 1 = nI 0 by decide), dr_mp, h.mm, e2, bd_t, dr_mp, h.mm, s1, bd_t, dr_mp, h.mm, show ((1 : Int32)) = nI 1 from rfl, s2, bd_t, o_ones, bd_t, wri_on]
        rfl
      rw [start]
      unfold a_dec
      by_cases h6 : a_sum (v (20 + q)) < nI 6 * a_bc (a_wri (v (20 + q)))
      · rw [if_pos h6, decide_eq_true h6]
        refine ⟨_, ⟨?_, by rw [u_ne (by omega)]; exact e4⟩, fin 1⟩
        unfold j_X5_decide_63
        rw [if_pos rfl]
        unfold j_X5_decide_76
        rw [dr_mp, h.mm]
        show bd (m_X5_lay (some m) (nI q) (nI 4) (nI 1) _) _ = _
        rw [ly 1, bd_t]
        rfl
      · rw [if_neg h6, decide_eq_false h6]
        refine ⟨_, ⟨?_, by rw [u_ne (by omega)]; exact e4⟩, fin 2⟩
        unfold j_X5_decide_63
        rw [if_neg (by decide)]
        unfold j_X5_decide_76
        rw [dr_mp, h.mm]
        show bd (m_X5_lay (some m) (nI q) (nI 4) (nI 2) _) _ = _
        rw [ly 2, bd_t]
        rfl
    · rw [if_neg h4, if_neg h4, if_pos (show nI 0 = 0 from rfl)]
      exact ⟨_, ⟨bad (nI 2) (by decide), u_s⟩, MU_0 hu _⟩
  · rw [if_neg h2, if_neg h2, if_pos (show nI 0 = 0 from rfl)]
    exact ⟨_, ⟨bad (nI 1) (by decide), u_s⟩, MU_0 hu _⟩
end MJ
