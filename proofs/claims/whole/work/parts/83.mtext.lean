/-! THE REFERENCE'S FACE: the text's signs, settings, counts -/
section MT
variable {S : PH} {G : Nat → Nat} {m : Nat} {u v : AS} {hs : List AS} {sl : Nat → Option AS} {tn : Nat} {tx : Nat → Int32}
theorem MU_tt (hu : MU u v hs sl tn tx) {u' : AS} (h1 : u' 1 = u 1) (h2 : u' 2 = u 2) (h3 : u' 3 = u 3) {tn' : Nat} {tx' : Nat → Int32} (h5 : u' 5 0 = nI tn' ∧ tn' ≤ 60 ∧ u' 4 = tx') : MU u' v hs sl tn' tx' := by
  obtain ⟨k1, k2, k3, k4, _⟩ := hu
  refine ⟨by rw [h1]; exact k1, by rw [h2]; exact k2, by rw [h1]; exact k3, by rw [h1, h3]; exact k4, h5⟩
theorem q_clr (hg : Gi G) (h : RM S G m) (hu : MU u v hs sl tn tx) : ∃ u', m_X5_clearBuffer (some m) (mput S G u) = some (nI tn, mput S G u') ∧ u' 0 0 = nI 0 ∧ MU u' v hs sl 0 tx := by
  have g5 : ∀ u : AS, p_I (mput S G u) m 5 = u 5 0 := fun u => mg_i h 5 (by omega)
  have z5 : u_2 u 0 0 0 5 0 = nI tn := by rw [u_ne (by omega)]; exact hu.2.2.2.2.1
  refine ⟨u_2 (u_2 u 0 0 0) 5 0 0, ?_, ?_, MU_tt hu ?_ ?_ ?_ ⟨u_s, by omega, ?_⟩⟩
  · unfold m_X5_clearBuffer
    rw [dr_mp, h.mm, ms_i hg h 0 (by omega), le_t, dr_mp, h.mm, g5, z5, le_t, ms_i hg h 5 (by omega), le_t]
  · rw [u_ne (by omega), u_s]
    rfl
  · rw [u_ne (by omega), u_ne (by omega)]
  · rw [u_ne (by omega), u_ne (by omega)]
  · rw [u_ne (by omega), u_ne (by omega)]
  · rw [u_ne (by omega), u_ne (by omega)]
    exact hu.2.2.2.2.2.2
theorem q_app (hg : Gi G) (h : RM S G m) (hu : MU u v hs sl tn tx) (c : Int32) : ∃ u', RES (m_X5_append (some m) c (mput S G u)) S G (fun e => if e = 0 then nI 1 else nI 2) u' (f_app tn c) ∧ MU u' v hs sl (if a_in c (nI 33) (nI 126) ∧ tn < 60 then tn + 1 else tn) (if a_in c (nI 33) (nI 126) ∧ tn < 60 then up1 tx tn c else tx) := by
  have g5 : ∀ u : AS, p_I (mput S G u) m 5 = u 5 0 := fun u => mg_i h 5 (by omega)
  obtain ⟨t1, t2, t3⟩ := hu.2.2.2.2
  have bad : ∀ d, ¬ d = nI 0 → j_X5_append_30 (some m) c (some m) d (mput S G u) = some (nI 0, mput S G (u_2 u 0 0 d)) := by
    intro d hd
    unfold j_X5_append_30
    rw [dr_mp, h.mm, (q_no hg h hu hd).1, bd_t, if_pos (show nI 0 = 0 from rfl)]
    rfl
  unfold m_X5_append f_app
  rw [show (33 : Int32) = nI 33 from rfl, show (126 : Int32) = nI 126 from rfl, o_in, bd_t]
  by_cases h1 : a_in c (nI 33) (nI 126) = true
  · rw [if_pos h1, if_pos h1, if_neg (show ¬ nI 1 = 0 by decide), dr_mp, h.mm, g5, t1]
    by_cases h2 : tn < 60
    · rw [if_neg (show ¬ nI tn = (60 : Int32) from fun z => by have := (nI_eq (show tn < 2147483648 by omega) (show 60 < 2147483648 by omega)).mp z; omega), if_pos h2, if_pos ⟨h1, h2⟩, if_pos ⟨h1, h2⟩]
      have z5 : u_2 u 0 0 (nI 0) 5 0 = nI tn := by rw [u_ne (by omega)]; exact t1
      have z6 : u_2 (u_2 u 0 0 (nI 0)) 4 tn c 5 0 = nI tn := by rw [u_ne (by omega)]; exact z5
      have e1 : nI tn + 1 = nI (tn + 1) := nI_add tn 1
      refine ⟨u_2 (u_2 (u_2 u 0 0 (nI 0)) 4 tn c) 5 0 (nI (tn + 1)), ⟨?_, ?_⟩, MU_tt hu ?_ ?_ ?_ ⟨u_s, by omega, ?_⟩⟩
      · unfold j_X5_append_30
        rw [show ((0 : Int32)) = nI 0 from rfl, dr_mp, h.mm, o_holds hg h, if_pos rfl, bd_t, if_neg (show ¬ nI 1 = nI 0 by decide), dr_mp, h.mm, R_mp, dr_mp, h.t, g5, z5, N_mp, h.nt, ck_n h2 (by omega), n_cl (by omega), ms_4 hg h, le_t, dr_mp, h.mm, g5, z6, e1, ms_i hg h 5 (by omega), le_t, dr_mp, h.mm, g5, u_s]
      · rw [u_ne (by omega), u_ne (by omega), u_s]
      · rw [u_ne (by omega), u_ne (by omega), u_ne (by omega)]
      · rw [u_ne (by omega), u_ne (by omega), u_ne (by omega)]
      · rw [u_ne (by omega), u_ne (by omega), u_ne (by omega)]
      · rw [u_ne (by omega), u_self, u_ne (by omega), t3]
    · rw [if_pos (show nI tn = (60 : Int32) by rw [show tn = 60 by omega]; rfl), if_neg h2, if_neg (fun z => h2 z.2), if_neg (fun z => h2 z.2)]
      exact ⟨_, ⟨bad (nI 2) (by decide), u_s⟩, MU_0 hu _⟩
  · rw [if_neg h1, if_neg h1, if_pos (show nI 0 = 0 from rfl), if_neg (fun z => h1 z.1), if_neg (fun z => h1 z.1)]
    exact ⟨_, ⟨bad (nI 1) (by decide), u_s⟩, MU_0 hu _⟩
end MT
