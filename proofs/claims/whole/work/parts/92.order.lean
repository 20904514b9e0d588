/-! THE REFERENCE READS AN ORDER -/
def rdo (C : Nat → Int32) (p : Nat) : Bool × Nat :=
  if C p = nI 116 ∨ C p = nI 120 then (if d7 (C (p + 1)) then (if d7 (C (p + 2)) then (true, p + 3) else (false, p + 2)) else (false, p + 1))
  else if C p = nI 115 then (if d7 (C (p + 1)) then (if d7 (C (p + 2)) then (if C (p + 3) = nI 61 then (if d9 (C (p + 4)) then (true, p + 5) else (false, p + 4)) else (false, p + 3)) else (false, p + 2)) else (false, p + 1))
  else if C p = nI 100 ∨ C p = nI 114 then (if d7 (C (p + 1)) then (true, p + 2) else (false, p + 1))
  else if C p = nI 119 then (true, p + 1) else (false, p)
/-- what the reader's numbers tell of the order at p -/
def RF (C : Nat → Int32) (p : Nat) (u : AS) : Prop := u 7 0 = C p ∧ (C p ≠ nI 119 → u 8 0 = C (p + 1) - nI 48) ∧ (C p = nI 116 ∨ C p = nI 120 ∨ C p = nI 115 → u 9 0 = C (p + 2) - nI 48) ∧ (C p = nI 115 → u 10 0 = C (p + 4) - nI 48)
theorem k_ne {a b : Nat} (h : a ≠ b) (ha : a < 1000) (hb : b < 1000) : ¬ nI a = nI b := fun z => h ((nI_eq (by omega) (by omega)).mp z)
section RO
variable {S : PH} {G : Nat → Nat} {m : Nat} {u : AS} {tn p : Nat} {tx : Nat → Int32}
theorem o_46 (hg : Gi G) (h : RM S G m) (ht : TU u tn tx (p + 1)) (hp : p < tn) (h7 : u 7 0 = cd tn tx p) (hc : cd tn tx p = nI 116 ∨ cd tn tx p = nI 120) : ∃ u', j_X5_readsOrder_46 (some m) (mput S G u) = some (if (rdo (cd tn tx) p).1 then nI 1 else nI 0, mput S G u') ∧ sR u u' ∧ TU u' tn tx (rdo (cd tn tx) p).2 ∧ ((rdo (cd tn tx) p).1 = true → RF (cd tn tx) p u') := by
  obtain ⟨u', e1, e2, e3, e4, e5⟩ := o_pair hg h ht
  have er : rdo (cd tn tx) p = (if d7 (cd tn tx (p + 1)) then (if d7 (cd tn tx (p + 2)) then (true, p + 3) else (false, p + 2)) else (false, p + 1)) := by unfold rdo; rw [if_pos hc]
  rw [er]
  refine ⟨u', ?_, e2, ?_, ?_⟩
  · unfold j_X5_readsOrder_46
    rw [dr_mp, h.mm, e1, bd_t]
    show ck (decide (vp_nar .boolean (if d7 (cd tn tx (p + 1)) && d7 (cd tn tx (p + 2)) then nI 1 else nI 0) = (if d7 (cd tn tx (p + 1)) && d7 (cd tn tx (p + 2)) then nI 1 else nI 0))) (some (if d7 (cd tn tx (p + 1)) && d7 (cd tn tx (p + 2)) then nI 1 else nI 0, mput S G u')) = _
    cases d7 (cd tn tx (p + 1)) <;> cases d7 (cd tn tx (p + 2)) <;> rfl
  · rw [show p + 1 + 1 = p + 2 from rfl] at e4
    revert e4
    cases d7 (cd tn tx (p + 1)) <;> cases d7 (cd tn tx (p + 2)) <;> exact fun e4 => e4
  · rw [show p + 1 + 1 = p + 2 from rfl] at e5
    cases k1 : d7 (cd tn tx (p + 1)) with
    | false => intro z; exact absurd (show false = true from z) (by decide)
    | true =>
      cases k2 : d7 (cd tn tx (p + 2)) with
      | false => intro z; exact absurd (show false = true from z) (by decide)
      | true =>
        intro _
        obtain ⟨f1, f2⟩ := e5 k1 k2
        exact ⟨e3.trans h7, fun _ => f1, fun _ => f2, fun z => by rcases hc with hc | hc <;> rw [hc] at z <;> exact absurd z (k_ne (by omega) (by omega) (by omega))⟩
theorem o_122 (hg : Gi G) (h : RM S G m) (ht : TU u tn tx (p + 1)) (hp : p < tn) (h7 : u 7 0 = cd tn tx p) (hc : cd tn tx p = nI 100 ∨ cd tn tx p = nI 114) : ∃ u', j_X5_readsOrder_122 (some m) (mput S G u) = some (if (rdo (cd tn tx) p).1 then nI 1 else nI 0, mput S G u') ∧ sR u u' ∧ TU u' tn tx (rdo (cd tn tx) p).2 ∧ ((rdo (cd tn tx) p).1 = true → RF (cd tn tx) p u') := by
  have n1 : ¬ (cd tn tx p = nI 116 ∨ cd tn tx p = nI 120) := by rcases hc with hc | hc <;> rw [hc] <;> decide
  have n2 : ¬ (cd tn tx p = nI 115) := by rcases hc with hc | hc <;> rw [hc] <;> decide
  have er : rdo (cd tn tx) p = (if d7 (cd tn tx (p + 1)) then (true, p + 2) else (false, p + 1)) := by unfold rdo; rw [if_neg n1, if_neg n2, if_pos hc]
  rw [er]
  unfold j_X5_readsOrder_122
  rw [dr_mp, h.mm, show (7 : Int32) = nI 7 from rfl]
  cases k1 : d7 (cd tn tx (p + 1)) with
  | false =>
    refine ⟨u_2 u 8 0 nM, ?_, (sR.rf u).set (by omega), ht.set (by omega), fun z => absurd (show false = true from z) (by decide)⟩
    rw [o_dnot hg h ht (g := 7) (by omega) ((d7_a _).symm.trans k1), bd_t, dr_mp, h.mm, ms_i hg h 8 (by omega), le_t, dr_mp, h.mm, mg_i h 8 (by omega), u_s, if_pos m_1]
    rfl
  | true =>
    have hp1 : p + 1 < tn := cd_lt (tx := tx) (fun z => by rw [z] at k1; exact absurd k1 (by decide))
    obtain ⟨j, hj, _, ej⟩ := d7_n k1
    have n3 : ¬ nI j = (-1 : Int32) := nM_ne (by omega)
    refine ⟨u_2 (u_2 u 6 0 (nI (p + 2))) 8 0 (nI j), ?_, ((sR.rf u).set (by omega)).set (by omega), (ht.at_ (by omega)).set (by omega), fun _ => ⟨?_, fun _ => ?_, fun z => ?_, fun z => absurd z n2⟩⟩
    · rw [o_dyes hg h ht (g := 7) (by omega) ((d7_a _).symm.trans k1), bd_t, ej, dr_mp, h.mm, ms_i hg h 8 (by omega), le_t, dr_mp, h.mm, mg_i h 8 (by omega), u_s, if_neg n3]
      rfl
    · rw [u_ne (by omega), u_ne (by omega)]; exact h7
    · rw [u_s, ej]
    · rcases z with z | z | z
      · exact absurd (Or.inl z) n1
      · exact absurd (Or.inr z) n1
      · exact absurd z n2
theorem o_s (hg : Gi G) (h : RM S G m) (ht : TU u tn tx (p + 1)) (hp : p < tn) (h7 : u 7 0 = cd tn tx p) (hc : cd tn tx p = nI 115) : ∃ u', (bd (m_X5_readsPair (some m) (mput S G u)) fun v82 S83 => if v82 = 0 then (j_X5_readsOrder_87 (some m) (some m) (-1 : Int32) S83) else (dr S83 5 (some m) fun a98 => bd (m_X5_takesSign (some m) (61 : Int32) S83) fun v101 S102 => if v101 = 0 then (j_X5_readsOrder_87 (some m) (some m) (-1 : Int32) S102) else (dr S102 5 (some m) fun a105 => bd (m_X5_digit (some m) (9 : Int32) S102) fun v108 S109 => j_X5_readsOrder_87 (some m) (some m) v108 S109))) = some (if (rdo (cd tn tx) p).1 then nI 1 else nI 0, mput S G u') ∧ sR u u' ∧ TU u' tn tx (rdo (cd tn tx) p).2 ∧ ((rdo (cd tn tx) p).1 = true → RF (cd tn tx) p u') := by
  obtain ⟨u1, e1, e2, e3, e4, e5⟩ := o_pair hg h ht
  rw [show p + 1 + 1 = p + 2 from rfl, show p + 1 + 2 = p + 3 from rfl] at e4
  rw [show p + 1 + 1 = p + 2 from rfl] at e5 e1
  have n1 : ¬ (cd tn tx p = nI 116 ∨ cd tn tx p = nI 120) := by rw [hc]; decide
  have er : rdo (cd tn tx) p = (if d7 (cd tn tx (p + 1)) then (if d7 (cd tn tx (p + 2)) then (if cd tn tx (p + 3) = nI 61 then (if d9 (cd tn tx (p + 4)) then (true, p + 5) else (false, p + 4)) else (false, p + 3)) else (false, p + 2)) else (false, p + 1)) := by unfold rdo; rw [if_neg n1, if_pos hc]
  rw [er, e1, bd_t]
  have no : ∀ w : AS, j_X5_readsOrder_87 (some m) (some m) (-1 : Int32) (mput S G w) = some (nI 0, mput S G (u_2 w 10 0 nM)) := by
    intro w
    unfold j_X5_readsOrder_87
    rw [dr_mp, h.mm, ms_i hg h 10 (by omega), le_t, dr_mp, h.mm, mg_i h 10 (by omega), u_s, if_pos rfl]
    rfl
  cases k1 : d7 (cd tn tx (p + 1)) with
  | false =>
    rw [k1] at e4
    refine ⟨u_2 u1 10 0 nM, ?_, e2.set (by omega), e4.set (by omega), fun z => absurd (show false = true from z) (by decide)⟩
    rw [if_pos (show (if (false && d7 (cd tn tx (p + 2))) = true then nI 1 else nI 0) = 0 from rfl), no]
    rfl
  | true =>
    cases k2 : d7 (cd tn tx (p + 2)) with
    | false =>
      rw [k1, k2] at e4
      refine ⟨u_2 u1 10 0 nM, ?_, e2.set (by omega), e4.set (by omega), fun z => absurd (show false = true from z) (by decide)⟩
      rw [if_pos (show (if (true && false) = true then nI 1 else nI 0) = 0 from rfl), no]
      rfl
    | true =>
      rw [k1, k2] at e4
      have e4 : TU u1 tn tx (p + 3) := e4
      obtain ⟨f1, f2⟩ := e5 k1 k2
      rw [if_neg (show ¬ (if (true && true) = true then nI 1 else nI 0) = 0 by decide), dr_mp, h.mm, show (61 : Int32) = nI 61 from rfl]
      by_cases k3 : cd tn tx (p + 3) = nI 61
      · have hp3 : p + 3 < tn := cd_lt (tx := tx) (fun z => by rw [z] at k3; exact absurd k3 (by decide))
        have t4 := e4.at_ (show p + 4 ≤ tn by omega)
        rw [o_yes hg h e4 (by omega) (by omega) k3, bd_t, if_neg (show ¬ nI 1 = 0 by decide), dr_mp, h.mm, show (9 : Int32) = nI 9 from rfl, if_pos k3]
        cases k4 : d9 (cd tn tx (p + 4)) with
        | false =>
          refine ⟨u_2 (u_2 u1 6 0 (nI (p + 4))) 10 0 nM, ?_, (e2.set (by omega)).set (by omega), t4.set (by omega), fun z => absurd (show false = true from z) (by decide)⟩
          rw [o_dnot hg h t4 (g := 9) (by omega) ((d9_a _).symm.trans k4), bd_t, m_1, no]
          rfl
        | true =>
          have hp4 : p + 4 < tn := cd_lt (tx := tx) (fun z => by rw [z] at k4; exact absurd k4 (by decide))
          obtain ⟨j, hj, _, ej⟩ := d9_n k4
          have n3 : ¬ nI j = (-1 : Int32) := nM_ne (by omega)
          refine ⟨u_2 (u_2 (u_2 u1 6 0 (nI (p + 4))) 6 0 (nI (p + 5))) 10 0 (nI j), ?_, ((e2.set (by omega)).set (by omega)).set (by omega), (t4.at_ (show p + 5 ≤ tn by omega)).set (by omega), fun _ => ⟨?_, fun _ => ?_, fun _ => ?_, fun _ => ?_⟩⟩
          · rw [o_dyes hg h t4 (g := 9) (by omega) ((d9_a _).symm.trans k4), bd_t, ej]
            unfold j_X5_readsOrder_87
            rw [dr_mp, h.mm, ms_i hg h 10 (by omega), le_t, dr_mp, h.mm, mg_i h 10 (by omega), u_s, if_neg n3]
            rfl
          · rw [u_ne (by omega), u_ne (by omega), u_ne (by omega), e3]; exact h7
          · rw [u_ne (by omega), u_ne (by omega), u_ne (by omega)]; exact f1
          · rw [u_ne (by omega), u_ne (by omega), u_ne (by omega)]; exact f2
          · rw [u_s, ej]
      · refine ⟨u_2 u1 10 0 nM, ?_, e2.set (by omega), ?_, ?_⟩
        · rw [o_not hg h e4 (by omega) (by omega) k3, bd_t, if_pos (show nI 0 = 0 from rfl), no, if_neg k3]
          rfl
        · rw [if_neg k3]; exact e4.set (by omega)
        · rw [if_neg k3]; exact fun z => absurd (show false = true from z) (by decide)
theorem o_order (hg : Gi G) (h : RM S G m) (ht : TU u tn tx p) : ∃ u', m_X5_readsOrder (some m) (mput S G u) = some (if (rdo (cd tn tx) p).1 then nI 1 else nI 0, mput S G u') ∧ sR u u' ∧ TU u' tn tx (rdo (cd tn tx) p).2 ∧ ((rdo (cd tn tx) p).1 = true → RF (cd tn tx) p u') := by
  have key : ∃ u', j_X5_readsOrder_25 (some m) (some m) (cd tn tx p) (mput S G u) = some (if (rdo (cd tn tx) p).1 then nI 1 else nI 0, mput S G u') ∧ sR u u' ∧ TU u' tn tx (rdo (cd tn tx) p).2 ∧ ((rdo (cd tn tx) p).1 = true → RF (cd tn tx) p u') := by
    unfold j_X5_readsOrder_25
    rw [dr_mp, h.mm, ms_i hg h 7 (by omega), le_t, dr_mp, h.mm, show (116 : Int32) = nI 116 from rfl, show (120 : Int32) = nI 120 from rfl, show (115 : Int32) = nI 115 from rfl, show (100 : Int32) = nI 100 from rfl, show (114 : Int32) = nI 114 from rfl, show (119 : Int32) = nI 119 from rfl]
    have t7 : TU (u_2 u 7 0 (cd tn tx p)) tn tx p := ht.set (by omega)
    have s7 : sR u (u_2 u 7 0 (cd tn tx p)) := (sR.rf u).set (by omega)
    have v7 : u_2 u 7 0 (cd tn tx p) 7 0 = cd tn tx p := u_s
    generalize u_2 u 7 0 (cd tn tx p) = w at t7 s7 v7 ⊢
    have w7 : ∀ k, u_2 w 6 0 k 7 0 = cd tn tx p := fun k => by rw [u_ne (by omega)]; exact v7
    have lt : ∀ k, 0 < k → k < 1000 → cd tn tx p = nI k → p < tn := fun k h0 hk e => cd_lt (tx := tx) (fun z => by rw [z] at e; exact k_ne (show 0 ≠ k by omega) (by omega) (by omega) e)
    have s8 : ∀ k, sR u (u_2 w 6 0 k) := fun k => s7.set (by omega)
    by_cases c1 : cd tn tx p = nI 116
    · have hp := lt _ (by omega) (by omega) c1
      rw [o_yes hg h t7 (by omega) (by omega) c1, bd_t, if_neg (show ¬ nI 1 = 0 by decide)]
      obtain ⟨u', e1, e2, e3, e4⟩ := o_46 hg h (t7.at_ (show p + 1 ≤ tn by omega)) hp (w7 _) (Or.inl c1)
      exact ⟨u', e1, (s8 _).tr e2, e3, e4⟩
    rw [o_not hg h t7 (by omega) (by omega) c1, bd_t, if_pos (show nI 0 = 0 from rfl), dr_mp, h.mm]
    by_cases c2 : cd tn tx p = nI 120
    · have hp := lt _ (by omega) (by omega) c2
      rw [o_yes hg h t7 (by omega) (by omega) c2, bd_t, if_neg (show ¬ nI 1 = 0 by decide)]
      obtain ⟨u', e1, e2, e3, e4⟩ := o_46 hg h (t7.at_ (show p + 1 ≤ tn by omega)) hp (w7 _) (Or.inr c2)
      exact ⟨u', e1, (s8 _).tr e2, e3, e4⟩
    rw [o_not hg h t7 (by omega) (by omega) c2, bd_t, if_pos (show nI 0 = 0 from rfl), dr_mp, h.mm]
    by_cases c3 : cd tn tx p = nI 115
    · have hp := lt _ (by omega) (by omega) c3
      rw [o_yes hg h t7 (by omega) (by omega) c3, bd_t, if_neg (show ¬ nI 1 = 0 by decide), dr_mp, h.mm]
      obtain ⟨u', e1, e2, e3, e4⟩ := o_s hg h (t7.at_ (show p + 1 ≤ tn by omega)) hp (w7 _) c3
      exact ⟨u', e1, (s8 _).tr e2, e3, e4⟩
    rw [o_not hg h t7 (by omega) (by omega) c3, bd_t, if_pos (show nI 0 = 0 from rfl), dr_mp, h.mm]
    by_cases c4 : cd tn tx p = nI 100
    · have hp := lt _ (by omega) (by omega) c4
      rw [o_yes hg h t7 (by omega) (by omega) c4, bd_t, if_neg (show ¬ nI 1 = 0 by decide)]
      obtain ⟨u', e1, e2, e3, e4⟩ := o_122 hg h (t7.at_ (show p + 1 ≤ tn by omega)) hp (w7 _) (Or.inl c4)
      exact ⟨u', e1, (s8 _).tr e2, e3, e4⟩
    rw [o_not hg h t7 (by omega) (by omega) c4, bd_t, if_pos (show nI 0 = 0 from rfl), dr_mp, h.mm]
    by_cases c5 : cd tn tx p = nI 114
    · have hp := lt _ (by omega) (by omega) c5
      rw [o_yes hg h t7 (by omega) (by omega) c5, bd_t, if_neg (show ¬ nI 1 = 0 by decide)]
      obtain ⟨u', e1, e2, e3, e4⟩ := o_122 hg h (t7.at_ (show p + 1 ≤ tn by omega)) hp (w7 _) (Or.inr c5)
      exact ⟨u', e1, (s8 _).tr e2, e3, e4⟩
    rw [o_not hg h t7 (by omega) (by omega) c5, bd_t, if_pos (show nI 0 = 0 from rfl), dr_mp, h.mm]
    have er : rdo (cd tn tx) p = (if cd tn tx p = nI 119 then (true, p + 1) else (false, p)) := by
      unfold rdo
      rw [if_neg (by rintro (z | z); exact c1 z; exact c2 z), if_neg c3, if_neg (by rintro (z | z); exact c4 z; exact c5 z)]
    rw [er]
    by_cases c6 : cd tn tx p = nI 119
    · have hp := lt _ (by omega) (by omega) c6
      rw [o_yes hg h t7 (by omega) (by omega) c6, bd_t, nar1, if_pos c6]
      refine ⟨_, rfl, s8 _, t7.at_ (show p + 1 ≤ tn by omega), fun _ => ⟨w7 _, fun z => absurd c6 z, fun z => ?_, fun z => absurd z c3⟩⟩
      rcases z with z | z | z
      · exact absurd z c1
      · exact absurd z c2
      · exact absurd z c3
    · rw [o_not hg h t7 (by omega) (by omega) c6, bd_t, nar0, if_neg c6]
      exact ⟨_, rfl, s7, t7, fun z => absurd (show false = true from z) (by decide)⟩
  obtain ⟨t1, t2, t3, t4, t5⟩ := ht
  unfold m_X5_readsOrder
  rw [dr_mp, h.mm, mg_i h 5 (by omega), mg_i h 6 (by omega), t1, t4]
  by_cases e : p = tn
  · have e0 : cd tn tx p = 0 := if_neg (by omega)
    rw [e0] at key
    rw [if_pos (by rw [e]; exact Int32.le_refl _)]
    exact key
  · have e0 : cd tn tx p = tx p := if_pos (by omega)
    rw [e0] at key
    rw [if_neg (show ¬ nI tn ≤ nI p by rw [nI_leI (by omega) (by omega)]; omega), R_mp, dr_mp, h.t, N_mp, h.nt, ck_n (by omega) (by omega), n_cl (by omega), mg_4 h, t3]
    exact key
end RO
