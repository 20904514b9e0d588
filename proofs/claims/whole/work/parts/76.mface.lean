/-! THE REFERENCE'S FACE: what holds, what is saved -/
section MF
variable {S : PH} {G : Nat → Nat} {m : Nat} {u v : AS} {hs : List AS} {sl : Nat → Option AS} {tn : Nat} {tx : Nat → Int32}
theorem o_holds (hg : Gi G) (h : RM S G m) (c : Int32) : m_X5_holds (some m) c (mput S G u) = some (if c = nI 0 then nI 1 else nI 0, mput S G (u_2 u 0 0 c)) := by
  unfold m_X5_holds
  rw [dr_mp, h.mm, ms_i hg h 0 (by omega), le_t]
  by_cases hc : c = 0
  · rw [if_pos hc, if_pos (show c = nI 0 from hc)]
    rfl
  · rw [if_neg hc, if_neg (show ¬ c = nI 0 from hc)]
    rfl
theorem MU_0 (hu : MU u v hs sl tn tx) (c : Int32) : MU (u_2 u 0 0 c) v hs sl tn tx := by
  unfold MU
  rw [u_ne (show (1 : Nat) ≠ 0 by omega), u_ne (show (2 : Nat) ≠ 0 by omega), u_ne (show (3 : Nat) ≠ 0 by omega), u_ne (show (4 : Nat) ≠ 0 by omega), u_ne (show (5 : Nat) ≠ 0 by omega)]
  exact hu
/-- the first chunk changes -/
theorem MU_s1 {u' w : AS} (hu : MU u v hs sl tn tx) (hs1 : s1 u u') (hc : cr (u' 1) 0 (a_n w) w) : MU u' w hs sl tn tx := by
  obtain ⟨h1, h2, h3, h4, h5⟩ := hu
  have co : ∀ e n z, n ≤ 8 → 1 ≤ e → cr (u 1) e n z → cr (u' 1) e n z := by
    intro e n z hn he hcr f p hv
    have := lo_lt hn hv
    rw [hs1.2 _ (by omega)]
    exact hcr f p hv
  refine ⟨hc, by rw [hs1.1 2 (by omega)]; exact h2, fun i z hz => ?_, fun i hi => ⟨fun hz => ?_, fun z hz => ?_⟩, ?_⟩
  · have k := h3 i z hz
    have hlt := (List.getElem?_eq_some_iff.mp hz).1
    exact ⟨k.1, co _ _ _ k.1 (by omega) k.2⟩
  · rw [hs1.1 3 (by omega)]; exact (h4 i hi).1 hz
  · obtain ⟨k1, k2, k3⟩ := (h4 i hi).2 z hz
    rw [hs1.1 3 (by omega)]
    exact ⟨k1, k2, co _ _ _ k2 (by omega) k3⟩
  · rw [hs1.1 5 (by omega), hs1.1 4 (by omega)]; exact h5
def MUO (u v : AS) (hs : List AS) (sl : Nat → Option AS) (tn : Nat) (tx : Nat → Int32) : Option AS → Prop
  | none => MU u v hs sl tn tx
  | some w => MU u w ((v :: hs).take 6) sl tn tx
/-- a method of the reference ends so: tb: the number of what is thrown -/
def RES (o : Option (Int32 × PH)) (S : PH) (G : Nat → Nat) (tb : Nat → Int32) (u' : AS) : (Nat ⊕ Int32) → Prop
  | .inl e => o = some (nI 0, mput S G u') ∧ u' 0 0 = tb e
  | .inr y => o = some (y, mput S G u') ∧ u' 0 0 = nI 0
/-- refused -/
theorem q_no (hg : Gi G) (h : RM S G m) (hu : MU u v hs sl tn tx) {c : Int32} (hc : ¬ c = nI 0) : m_X5_holds (some m) c (mput S G u) = some (nI 0, mput S G (u_2 u 0 0 c)) ∧ MU (u_2 u 0 0 c) v hs sl tn tx ∧ u_2 u 0 0 c 0 0 = c := by
  refine ⟨?_, MU_0 hu c, u_s⟩
  rw [o_holds hg h, if_neg hc]
/-- allowed, and saved -/
theorem q_yes (hg : Gi G) (h : RM S G m) (hn : a_n v ≤ 8) (hu : MU u v hs sl tn tx) : m_X5_holds (some m) (nI 0) (mput S G u) = some (nI 1, mput S G (u_2 u 0 0 (nI 0))) ∧ ∃ u', m_X5_save (some m) (mput S G (u_2 u 0 0 (nI 0))) = some ((), mput S G u') ∧ MU u' v ((v :: hs).take 6) sl tn tx ∧ u' 0 0 = nI 0 := by
  refine ⟨?_, ?_⟩
  · rw [o_holds hg h, if_pos rfl]
  · obtain ⟨u', e1, e2, e3⟩ := o_save (u := u_2 u 0 0 (nI 0)) hg h hn (MU_0 hu (nI 0))
    exact ⟨u', e1, e2, by rw [e3 0 (by omega) (by omega), u_s]⟩
theorem q_topics (hg : Gi G) (h : RM S G m) (hI : IV v) (hu : MU u v hs sl tn tx) (i j : Int32) : ∃ u', RES (m_X5_topics (some m) i j (mput S G u)) S G (fun e => if e = 2 then nI 1 else nI 2) u' (f_topics v i j).1 ∧ MUO u' v hs sl tn tx (f_topics v i j).2 := by
  have hn := hI.in_.2
  have bad : ∀ c, ¬ c = nI 0 → j_X5_topics_27 (some m) i j (some m) c (mput S G u) = some (nI 0, mput S G (u_2 u 0 0 c)) := by
    intro c hc
    unfold j_X5_topics_27
    rw [dr_mp, h.mm, (q_no hg h hu hc).1, bd_t, if_pos (show nI 0 = 0 from rfl)]
    rfl
  unfold m_X5_topics f_topics
  rw [o_isPerson, bd_t]
  by_cases h1 : a_in i (nI 0) (nI 7) = true
  · rw [if_pos h1, if_pos h1, if_neg (show ¬ nI 1 = 0 by decide), show ((0 : Int32)) = nI 0 from rfl, show (15 : Int32) = nI 15 from rfl, o_in, bd_t]
    by_cases h2 : a_in j (nI 0) (nI 15) = true
    · rw [if_pos h2, if_pos h2, if_neg (show ¬ nI 1 = nI 0 by decide)]
      obtain ⟨p, hp, rfl⟩ := in_n (by omega) h1
      rw [n_cl (by omega)]
      obtain ⟨e1, u1, e2, e3, e4⟩ := q_yes hg h hn hu
      have hc := e3.1
      have ev : u1 1 (17 + p) = v 0 p := by
        have k := hc 0 p (by unfold vd; omega)
        have e : 161 * 0 + lo 0 p = 17 + p := by unfold lo; rw [if_pos (by omega)]; omega
        rw [e] at k
        exact k
      have ec := cr_set (w := j) hn hc (show vd (a_n v) 0 p by unfold vd; omega) (by omega) (by omega) (by omega)
      rw [show 161 * 0 + lo 0 p = 17 + p by unfold lo; rw [if_pos (by omega)]; omega] at ec
      refine ⟨u_2 u1 1 (17 + p) j, ⟨?_, ?_⟩, ?_⟩
      · simp (disch := omega) only [j_X5_topics_27, dr_mp, N_mp, R_mp, rf_mp, h.mm, h.s, h.ns, e1, e2, mg_1 h, ms_1 hg h, ev, z_0, z_1, z_2, z_3, z_4, z_5, z_6, z_7, z_8, z_9, z_10, z_12, z_13, z_15, z_17, z_20, z_25, z_31, z_33, z_41, z_49, z_57, z_60, z_72, z_100, z_161, z_255, z_256, z_999, z_9999, of_n, nI_add, pk_mul, n_le, n_lt, n_eq, n_cl, ck_n, ck_d, ck_tr, le_t, bd_t, ir_t, bt_r, bt_l, b_t, b_f, b_lt, b_lf, b_ef, z_m1, b_i0, b_i1, z_not, z_ps, f_mb, f_rf, ↓reduceIte, Nat.zero_add, Nat.add_zero, Nat.one_mul, Nat.mul_one, Nat.zero_mul, Nat.mul_zero, not_true_eq_false, not_false_eq_true]
      · rw [u_ne (by omega)]; exact e4
      · refine MU_s1 e3 ⟨fun f hf => u_ne hf, fun k hk => u_k (by omega)⟩ ?_
        rw [u_self]
        have en : a_n (u_2 v 0 p j) = a_n v := by unfold a_n; rw [u_ne (by omega)]
        rw [en]
        exact ec
    · rw [if_neg h2, if_neg h2, if_pos rfl]
      exact ⟨_, ⟨bad (nI 2) (by decide), u_s⟩, MU_0 hu _⟩
  · rw [if_neg h1, if_neg h1, if_pos (show nI 0 = 0 from rfl)]
    exact ⟨_, ⟨bad (nI 1) (by decide), u_s⟩, MU_0 hu _⟩
end MF
