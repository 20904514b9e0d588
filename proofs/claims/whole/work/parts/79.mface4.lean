/-! THE REFERENCE'S FACE: settings, writing, dropping, decisions, meetings -/
section MI
variable {S : PH} {G : Nat → Nat} {m : Nat} {u v : AS} {hs : List AS} {sl : Nat → Option AS} {tn : Nat} {tx : Nat → Int32}
theorem lo_5 {f p : Nat} (h1 : 5 ≤ f) (h2 : f < 10) : lo f p = 57 + 13 * p + (f - 5) := by unfold lo; rw [if_neg (by omega), if_pos h2]
theorem lo_20 {q p : Nat} (hq : q < 8) : lo (20 + q) p = 62 + 13 * q + p := by
  unfold lo
  rw [if_neg (by omega), if_neg (by omega), if_neg (by omega), if_neg (by omega), if_neg (by omega), if_neg (by omega), if_neg (by omega), if_neg (by omega), if_neg (by omega)]
  omega
theorem lo_11 {p : Nat} : lo 11 p = 4 + p := rfl
theorem q_set (hg : Gi G) (h : RM S G m) (hI : IV v) (hu : MU u v hs sl tn tx) (i j : Int32) : ∃ u', RES (m_X5_set (some m) i j (mput S G u)) S G (fun e => if e = 2 then nI 1 else nI 2) u' (f_set v i j).1 ∧ MUO u' v hs sl tn tx (f_set v i j).2 := by
  have hn := hI.in_.2
  have bad : ∀ c, ¬ c = nI 0 → j_X5_set_39 (some m) i j (some m) c (mput S G u) = some (nI 0, mput S G (u_2 u 0 0 c)) := by
    intro c hc
    unfold j_X5_set_39
    rw [dr_mp, h.mm, (q_no hg h hu hc).1, bd_t, if_pos (show nI 0 = 0 from rfl)]
    rfl
  unfold m_X5_set f_set
  rw [show ((0 : Int32)) = nI 0 from rfl, show (3 : Int32) = nI 3 from rfl, o_in, bd_t]
  by_cases h1 : a_in i (nI 0) (nI 3) = true
  · rw [if_pos h1, if_pos h1, if_neg (show ¬ nI 1 = nI 0 by decide)]
    obtain ⟨p, hp, rfl⟩ := in_n (by omega) h1
    rw [n_cl (by omega)]
    have em : (if nI p = nI 0 then j_X5_set_24 (some m) (nI p) j (some m) j (1 : Int32) (mput S G u) else j_X5_set_24 (some m) (nI p) j (some m) j (nI 0) (mput S G u)) = (if a_in j (sLo p) (sHi p) = true then j_X5_set_39 (some m) (nI p) j (some m) (nI 0) (mput S G u) else j_X5_set_39 (some m) (nI p) j (some m) (nI 2) (mput S G u)) := by
      have fin : ∀ l t, (bd (some (if a_in j l t = true then nI 1 else nI 0, mput S G u)) fun v13 S14 => if v13 = 0 then (j_X5_set_39 (some m) (nI p) j (some m) (2 : Int32) S14) else (j_X5_set_39 (some m) (nI p) j (some m) (0 : Int32) S14)) = (if a_in j l t = true then j_X5_set_39 (some m) (nI p) j (some m) (nI 0) (mput S G u) else j_X5_set_39 (some m) (nI p) j (some m) (nI 2) (mput S G u)) := by
        intro l t
        rw [bd_t]
        cases a_in j l t <;> rfl
      rcases (show p = 0 ∨ p = 1 ∨ p = 2 ∨ p = 3 by omega) with rfl | rfl | rfl | rfl
      · rw [if_pos rfl]
        unfold j_X5_set_24
        rw [show m_X5_mostOf (nI 0) (mput S G u) = some (nI 4, mput S G u) from rfl, bd_t, o_in]
        exact fin _ _
      · rw [if_neg (by decide)]
        unfold j_X5_set_24
        rw [show m_X5_mostOf (nI 1) (mput S G u) = some (nI 2, mput S G u) from rfl, bd_t, o_in]
        exact fin _ _
      · rw [if_neg (by decide)]
        unfold j_X5_set_24
        rw [show m_X5_mostOf (nI 2) (mput S G u) = some (nI 9, mput S G u) from rfl, bd_t, o_in]
        exact fin _ _
      · rw [if_neg (by decide)]
        unfold j_X5_set_24
        rw [show m_X5_mostOf (nI 3) (mput S G u) = some (nI 3, mput S G u) from rfl, bd_t, o_in]
        exact fin _ _
    rw [em]
    by_cases h2 : a_in j (sLo p) (sHi p) = true
    · rw [if_pos h2, if_pos h2]
      obtain ⟨e1, u1, e2, e3, e4⟩ := q_yes hg h hn hu
      have x1 := MU_at e3 (f := 11) (p := p) (k := 4 + p) (by unfold vd; omega) (by omega) lo_11
      have m1 := MU_set (w := j) hn e3 (f := 11) (p := p) (k := 4 + p) (by unfold vd; omega) (by omega) (by omega) (by omega) (by omega) lo_11
      refine ⟨_, ⟨?_, ?_⟩, m1⟩
      · have e7 : ∀ k, k < 4 → (4 : Int32) + nI k = nI (4 + k) := fun k _ => nI_add 4 k
        simp (disch := omega) only [j_X5_set_39, dr_mp, N_mp, R_mp, rf_mp, h.mm, h.s, h.ns, e1, e2, mg_1 h, ms_1 hg h, x1, e7, z_0, z_1, z_2, z_3, z_4, z_5, z_6, z_7, z_8, z_9, z_10, z_12, z_13, z_15, z_17, z_20, z_25, z_31, z_33, z_41, z_49, z_57, z_60, z_72, z_100, z_161, z_255, z_256, z_999, z_9999, of_n, nI_add, pk_mul, n_le, n_lt, n_eq, n_cl, ck_n, ck_d, ck_tr, le_t, bd_t, ir_t, bt_r, bt_l, b_t, b_f, b_lt, b_lf, b_ef, z_m1, b_i0, b_i1, z_not, z_ps, f_mb, f_rf, ↓reduceIte, Nat.zero_add, Nat.add_zero, Nat.one_mul, Nat.mul_one, Nat.zero_mul, Nat.mul_zero, not_true_eq_false, not_false_eq_true]
      · rw [u_ne (by omega)]
        exact e4
    · rw [if_neg h2, if_neg h2]
      exact ⟨_, ⟨bad (nI 2) (by decide), u_s⟩, MU_0 hu _⟩
  · rw [if_neg h1, if_neg h1, if_pos rfl]
    exact ⟨_, ⟨bad (nI 1) (by decide), u_s⟩, MU_0 hu _⟩
theorem q_drop (hg : Gi G) (h : RM S G m) (hI : IV v) (hu : MU u v hs sl tn tx) (i j : Int32) : ∃ u', RES (m_X5_drop (some m) i j (mput S G u)) S G (fun e => if e = 2 then nI 1 else nI 2) u' (f_drop v i j).1 ∧ MUO u' v hs sl tn tx (f_drop v i j).2 := by
  have hn := hI.in_.2
  have bad : ∀ c, ¬ c = nI 0 → j_X5_drop_46 (some m) i j (some m) c (mput S G u) = some (nI 0, mput S G (u_2 u 0 0 c)) := by
    intro c hc
    unfold j_X5_drop_46
    rw [dr_mp, h.mm, (q_no hg h hu hc).1, bd_t, if_pos (show nI 0 = 0 from rfl)]
    rfl
  have b20 : j_X5_drop_20 (some m) i j (0 : Int32) (mput S G u) = some (nI 0, mput S G (u_2 u 0 0 (nI 1))) := by
    unfold j_X5_drop_20
    rw [if_pos rfl]
    exact bad (nI 1) (by decide)
  unfold m_X5_drop f_drop
  rw [o_isPerson, bd_t]
  by_cases h1 : a_in i (nI 0) (nI 7) = true
  · rw [if_pos h1, if_pos h1, if_neg (show ¬ nI 1 = 0 by decide), dr_mp, h.mm, o_isPaper hg h hI hu, bd_t]
    by_cases h2 : a_isP v j = true
    · rw [if_pos h2, if_pos h2, if_neg (show ¬ nI 1 = 0 by decide)]
      obtain ⟨p, hp, rfl⟩ := in_n (by omega) h1
      obtain ⟨q, hq, rfl⟩ := isP_n hI h2
      rw [n_cl (by omega), n_cl (by omega)]
      unfold j_X5_drop_20
      have sc := o_score (hM (u := u) h) (by rw [rf_mp, mg_1 h]; exact hu.1) hn (p := p) (q := q) (by omega) hq
      rw [if_neg (show ¬ (1 : Int32) = 0 by decide), dr_mp, h.mm, sc, bd_t]
      by_cases h4 : a_cx v p q = true
      · rw [if_pos h4, if_pos (show v (20 + q) p = (10 : Int32) from of_decide_eq_true h4)]
        obtain ⟨e1, u1, e2, e3, e4⟩ := q_yes hg h hn hu
        obtain ⟨u2, d1, d2, d3⟩ := o_drops hg h hn e3.1 (p := p) (q := q) (by omega) hq
        have an : a_n (a_drop v p q) = a_n v := an_e (by unfold a_drop; rw [u_ne (by omega), u_ne (by omega), u_ne (by omega)])
        have m1 : MU u2 (a_drop v p q) ((v :: hs).take 6) sl tn tx := MU_s1 e3 d3 (by rw [an]; exact d2)
        have x9 : u2 1 (9 + p) = a_tok (a_drop v p q) p := by
          have k := m1.1 30 p (by unfold vd; omega)
          rw [show 161 * 0 + lo 30 p = 9 + p by show 161 * 0 + (9 + p) = 9 + p; omega] at k
          exact k
        refine ⟨u2, ⟨?_, by rw [d3.1 0 (by omega)]; exact e4⟩, m1⟩
        have e7 : ∀ k, k < 8 → (9 : Int32) + nI k = nI (9 + k) := fun k _ => nI_add 9 k
        simp (disch := omega) only [j_X5_drop_46, dr_mp, N_mp, R_mp, rf_mp, h.mm, h.s, h.ns, e1, e2, d1, mg_1 h, x9, e7, z_0, z_1, z_2, z_3, z_4, z_5, z_6, z_7, z_8, z_9, z_10, z_12, z_13, z_15, z_17, z_20, z_25, z_31, z_33, z_41, z_49, z_57, z_60, z_72, z_100, z_161, z_255, z_256, z_999, z_9999, of_n, nI_add, pk_mul, n_le, n_lt, n_eq, n_cl, ck_n, ck_d, ck_tr, le_t, bd_t, ir_t, bt_r, bt_l, b_t, b_f, b_lt, b_lf, b_ef, z_m1, b_i0, b_i1, z_not, z_ps, f_mb, f_rf, ↓reduceIte, Nat.zero_add, Nat.add_zero, Nat.one_mul, Nat.mul_one, Nat.zero_mul, Nat.mul_zero, not_true_eq_false, not_false_eq_true]
      · rw [if_neg h4, if_neg (show ¬ v (20 + q) p = (10 : Int32) from fun z => h4 (decide_eq_true (show v (20 + q) p = nI 10 from z)))]
        exact ⟨_, ⟨bad (nI 2) (by decide), u_s⟩, MU_0 hu _⟩
    · rw [if_neg h2, if_neg h2, if_pos (show nI 0 = 0 from rfl)]
      exact ⟨_, ⟨b20, u_s⟩, MU_0 hu _⟩
  · rw [if_neg h1, if_neg h1, if_pos (show nI 0 = 0 from rfl)]
    exact ⟨_, ⟨b20, u_s⟩, MU_0 hu _⟩
def MUU (u v : AS) (sl : Nat → Option AS) (tn : Nat) (tx : Nat → Int32) : List AS → Prop
  | [] => MU u v [] sl tn tx
  | w :: t => MU u w t sl tn tx
theorem q_undo (hg : Gi G) (h : RM S G m) (hu : MU u v hs sl tn tx) : ∃ u', RES (m_X5_undo (some m) (mput S G u)) S G (fun _ => nI 1) u' (f_undo hs).1 ∧ MUU u' v sl tn tx hs := by
  obtain ⟨h1, ⟨h2, h2b⟩, h3, h4, h5⟩ := hu
  have g2 : ∀ u : AS, p_I (mput S G u) m 2 = u 2 0 := fun u => mg_i h 2 (by omega)
  unfold m_X5_undo
  rw [dr_mp, h.mm, g2, h2]
  cases hs with
  | nil =>
    rw [if_pos (show nI ([] : List AS).length ≤ (0 : Int32) by decide)]
    refine ⟨_, ⟨?_, u_s⟩, MU_0 ⟨h1, ⟨h2, h2b⟩, h3, h4, h5⟩ (nI 1)⟩
    unfold j_X5_undo_13
    rw [show ((1 : Int32)) = nI 1 from rfl, dr_mp, h.mm, o_holds hg h, if_neg (show ¬ nI 1 = nI 0 by decide), bd_t, if_pos (show nI 0 = 0 from rfl)]
    rfl
  | cons w t =>
    have hl : (w :: t).length = t.length + 1 := rfl
    rw [hl] at h2 h2b ⊢
    rw [if_neg (show ¬ nI (t.length + 1) ≤ (0 : Int32) from fun z => by have := (nI_leI (show t.length + 1 < 2147483648 by omega) (show 0 < 2147483648 by omega)).mp z; omega)]
    have k0 := h3 0 w rfl
    rw [hl] at k0
    have e := o_copies (u := u_2 u 0 0 (nI 0)) hg h (c := t.length + 1) (d := 0) (by omega) (by omega) (by omega)
    have U1 : u_2 u 0 0 (nI 0) 1 = u 1 := u_ne (by omega)
    have sub1 : nI (t.length + 1) - 1 = nI t.length := by
      rw [← nI_add t.length 1]
      show nI t.length + nI 1 - nI 1 = _
      exact Int32.add_sub_cancel _ _
    have c2 : cpk (u_2 u 0 0 (nI 0)) (t.length + 1) 0 161 2 0 = nI (t.length + 1) := by rw [cpk_ne (by omega), u_ne (by omega)]; exact h2
    have z2 : u_2 u 0 0 (nI 0) 2 0 = nI (t.length + 1) := by rw [u_ne (by omega)]; exact h2
    have co : ∀ e n z, n ≤ 8 → e ≠ 0 → cr (u 1) e n z → cr (u_2 (cpk (u_2 u 0 0 (nI 0)) (t.length + 1) 0 161) 2 0 (nI t.length) 1) e n z := fun e n z h8 he hc => by
      rw [u_ne (by omega)]
      exact cpk_co h8 he (by rw [U1]; exact hc)
    refine ⟨u_2 (cpk (u_2 u 0 0 (nI 0)) (t.length + 1) 0 161) 2 0 (nI t.length), ⟨?_, ?_⟩, ?_, ⟨u_s, by omega⟩, fun i z hz => ?_, fun i hi => ⟨fun hz => ?_, fun z hz => ?_⟩, ?_⟩
    · unfold j_X5_undo_13
      have i2 := ms_i hg h (u := cpk (u_2 u 0 0 (nI 0)) (t.length + 1) 0 161) 2 (by omega) (w := nI t.length)
      rw [show ((0 : Int32)) = nI 0 from rfl, dr_mp, h.mm, o_holds hg h, if_pos rfl, bd_t, if_neg (show ¬ nI 1 = nI 0 by decide), dr_mp, h.mm, g2, z2]
      rw [e, bd_t, dr_mp, h.mm, g2, c2, sub1, i2, le_t, dr_mp, h.mm, g2, u_s]
    · rw [u_ne (by omega), cpk_ne (by omega), u_s]
    · rw [u_ne (by omega)]
      exact cpk_cr k0.1 (by rw [U1]; exact k0.2)
    · have k := h3 (i + 1) z (by rw [List.getElem?_cons_succ]; exact hz)
      rw [hl] at k
      have hlt := (List.getElem?_eq_some_iff.mp hz).1
      rw [show t.length + 1 - (i + 1) = t.length - i by omega] at k
      exact ⟨k.1, co _ _ _ k.1 (by omega) k.2⟩
    · rw [u_ne (by omega), cpk_ne (by omega), u_ne (by omega)]
      exact (h4 i hi).1 hz
    · obtain ⟨k1, k2, k3⟩ := (h4 i hi).2 z hz
      rw [u_ne (show (3 : Nat) ≠ 2 by omega), cpk_ne (by omega), u_ne (by omega)]
      exact ⟨k1, k2, co _ _ _ k2 (by omega) k3⟩
    · rw [u_ne (by omega), u_ne (by omega), cpk_ne (by omega), cpk_ne (by omega), u_ne (by omega), u_ne (by omega)]
      exact h5
end MI
