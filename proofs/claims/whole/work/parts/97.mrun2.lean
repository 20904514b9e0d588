/-! A WEEK IS RUN: the reference's loop -/
section RR
variable {S : PH} {G : Nat → Nat} {m : Nat} {u v : AS} {hs : List AS} {sl : Nat → Option AS} {tn : Nat} {tx : Nat → Int32}
theorem o_end (hg : Gi G) (h : RM S G m) (hu : MU u v hs sl tn tx) (k : Int32) : ∃ u', j_X5_run_59 (some m) k (mput S G u) = some (k, mput S G u') ∧ MU u' v hs sl 0 tx ∧ u' 0 0 = u 0 0 := by
  refine ⟨u_2 u 5 0 0, ?_, MU_tt hu (u_ne (by omega)) (u_ne (by omega)) (u_ne (by omega)) ⟨u_s, by omega, ?_⟩, by rw [u_ne (by omega)]⟩
  · unfold j_X5_run_59
    rw [dr_mp, h.mm, ms_i hg h 5 (by omega), le_t]
  · rw [u_ne (by omega)]
    exact hu.2.2.2.2.2.2
theorem TU_s1 {u u' : AS} {p : Nat} (h : TU u tn tx p) (hs : s1 u u') : TU u' tn tx p := by
  unfold TU at h ⊢
  rw [hs.1 4 (by omega), hs.1 5 (by omega), hs.1 6 (by omega)]
  exact h
theorem o_ords (hg : Gi G) (h : RM S G m) (hw : dst (cd tn tx) tn = 2) : ∀ f p k (v u : AS), k + f = 60 → 2 * k ≤ p → IV v → MU u v hs sl tn tx → TU u tn tx (min p tn) → (tn ≤ p ∨ dst (cd tn tx) p = 1 ∧ p < tn) → ∃ u', lp (st_X5_run_32 (some m)) (nI k, mput S G u) = some (nI (ords (cd tn tx) tn f p k v).1, mput S G u') ∧ MU u' (ords (cd tn tx) tn f p k v).2 hs sl 0 tx ∧ u' 0 0 = u 0 0 := by
  have hC : cd tn tx tn = 0 := if_neg (by omega)
  have fin : ∀ (v u : AS) k, MU u v hs sl tn tx → TU u tn tx tn → ∃ u', lp (st_X5_run_32 (some m)) (nI k, mput S G u) = some (nI k, mput S G u') ∧ MU u' v hs sl 0 tx ∧ u' 0 0 = u 0 0 := by
    intro v u k hu ht
    obtain ⟨u1, e1, e2, e3, e4⟩ := o_order hg h ht
    have er : rdo (cd tn tx) tn = (false, tn) := by
      unfold rdo
      rw [hC, if_neg (by decide), if_neg (by decide), if_neg (by decide), if_neg (by decide)]
    rw [er] at e1
    obtain ⟨u', g1, g2, g3⟩ := o_end hg h (MU_R hu e2) (nI k)
    refine ⟨u', lp_inr ?_, g2, g3.trans (by rw [e2 0 (by omega)])⟩
    unfold st_X5_run_32
    dsimp only
    rw [dr_mp, h.mm, e1, bd_t, if_pos (show (if (false, tn).1 = true then nI 1 else nI 0) = 0 from rfl), g1]
    rfl
  intro f
  induction f with
  | zero =>
    intro p k v u hk hp hI hu ht hd
    have t60 := ht.2.1
    rw [show min p tn = tn by omega] at ht
    exact fin v u k hu ht
  | succ f ih =>
    intro p k v u hk hp hI hu ht hd
    have t60 := ht.2.1
    have e : ords (cd tn tx) tn (f + 1) p k v = (if tn ≤ p then (k, v) else if (a_ord (cd tn tx) v p).1 then ords (cd tn tx) tn f (p + (osz (cd tn tx p) + 1)) (k + 1) (a_ord (cd tn tx) v p).2 else (k, (a_ord (cd tn tx) v p).2)) := rfl
    rw [e]
    by_cases g : tn ≤ p
    · rw [if_pos g]
      rw [show min p tn = tn by omega] at ht
      exact fin v u k hu ht
    · rw [if_neg g]
      rw [show min p tn = p by omega] at ht
      obtain ⟨d, hlt⟩ := hd.resolve_left g
      obtain ⟨r1, r2, r3, r4⟩ := week_ok hC hw hlt d
      have k0 := rdo_ok r1
      have k1 := iv_ord (v := v) hI k0.1
      obtain ⟨u1, e1, e2, e3, e4⟩ := o_order hg h ht
      rw [r1, if_pos rfl] at e1
      rw [k0.2] at e3
      have hu1 := MU_R hu e2
      obtain ⟨u2, f1, f2, f3⟩ := o_ord hg h hI hu1 k0.1 (e4 r1)
      have t2 := TU_s1 e3 f3
      by_cases b : (a_ord (cd tn tx) v p).1 = true
      · rw [if_pos b]
        rw [b, if_pos rfl] at f1
        have e3 : nI k + 1 = nI (k + 1) := nI_add k 1
        have osl : 1 ≤ osz (cd tn tx p) := by unfold osz; (repeat' split) <;> omega
        have u00 : u2 0 0 = u 0 0 := by rw [f3.1 0 (by omega), e2 0 (by omega)]
        rcases r4 with r4 | ⟨r4, r5, r6⟩
        · have hn := o_not hg h t2 (c := 59) (by omega) (by omega) (by rw [r4, hC]; decide)
          obtain ⟨u', g1, g2, g3⟩ := ih (p + (osz (cd tn tx p) + 1)) (k + 1) (a_ord (cd tn tx) v p).2 u2 (by omega) (by omega) k1.1 f2 (by rw [show min (p + (osz (cd tn tx p) + 1)) tn = p + osz (cd tn tx p) by omega]; exact t2) (Or.inl (by omega))
          refine ⟨u', ?_, g2, g3.trans u00⟩
          rw [← g1]
          refine lp_inl ?_
          unfold st_X5_run_32
          dsimp only
          rw [dr_mp, h.mm, e1, bd_t, if_neg (show ¬ nI 1 = 0 by decide), dr_mp, h.mm, f1, bd_t, if_neg (show ¬ nI 1 = 0 by decide), dr_mp, h.mm, show (59 : Int32) = nI 59 from rfl, hn, bd_t, e3]
        · have hy := o_yes hg h t2 (c := 59) (by omega) (by omega) r4
          obtain ⟨u', g1, g2, g3⟩ := ih (p + (osz (cd tn tx p) + 1)) (k + 1) (a_ord (cd tn tx) v p).2 (u_2 u2 6 0 (nI (p + osz (cd tn tx p) + 1))) (by omega) (by omega) k1.1 (MU_R f2 ((sR.rf u2).set (by omega))) (by rw [show min (p + (osz (cd tn tx p) + 1)) tn = p + osz (cd tn tx p) + 1 by omega]; exact t2.at_ (by omega)) (Or.inr ⟨r5, r6⟩)
          refine ⟨u', ?_, g2, g3.trans (by rw [u_ne (by omega)]; exact u00)⟩
          rw [← g1]
          refine lp_inl ?_
          unfold st_X5_run_32
          dsimp only
          rw [dr_mp, h.mm, e1, bd_t, if_neg (show ¬ nI 1 = 0 by decide), dr_mp, h.mm, f1, bd_t, if_neg (show ¬ nI 1 = 0 by decide), dr_mp, h.mm, show (59 : Int32) = nI 59 from rfl, hy, bd_t, e3]
      · rw [if_neg b]
        have b' : (a_ord (cd tn tx) v p).1 = false := by simpa using b
        rw [b', if_neg (by decide)] at f1
        obtain ⟨u', g1, g2, g3⟩ := o_end hg h f2 (nI k)
        refine ⟨u', lp_inr ?_, g2, g3.trans (by rw [f3.1 0 (by omega), e2 0 (by omega)])⟩
        unfold st_X5_run_32
        dsimp only
        rw [dr_mp, h.mm, e1, bd_t, if_neg (show ¬ nI 1 = 0 by decide), dr_mp, h.mm, f1, bd_t, if_pos (show nI 0 = 0 from rfl), g1]
        rfl
theorem q_run (hg : Gi G) (h : RM S G m) (hI : IV v) (hu : MU u v hs sl tn tx) : ∃ u', RES (m_X5_run (some m) (mput S G u)) S G (fun _ => nI 1) u' (f_run v tn tx).1 ∧ MUO u' v hs sl (if dst (cd tn tx) tn = 2 then 0 else tn) tx (f_run v tn tx).2 := by
  have hn := hI.in_.2
  obtain ⟨w, e1, e2, e3⟩ := o_isWeek hg h hu
  have hw := MU_R hu e2
  unfold m_X5_run f_run
  rw [dr_mp, h.mm, e1, bd_t]
  by_cases h1 : dst (cd tn tx) tn = 2
  · rw [if_pos h1, if_pos h1, if_pos h1, if_neg (show ¬ nI 1 = 0 by decide)]
    obtain ⟨f1, u1, f2, f3, f4⟩ := q_yes hg h hn hw
    have hu2 := MU_R f3 ((sR.rf u1).set (f := 6) (k := 0) (x := nI 0) (by omega))
    obtain ⟨u', g1, g2, g3⟩ := o_ords hg h h1 60 0 0 v (u_2 u1 6 0 (nI 0)) (by omega) (by omega) hI hu2 (by rw [show min 0 tn = 0 by omega]; exact f3.tu) (Or.inr ⟨rfl, dst_w h1⟩)
    refine ⟨u', ⟨?_, ?_⟩, g2⟩
    · unfold j_X5_run_13
      rw [dr_mp, h.mm, show ((0 : Int32)) = nI 0 from rfl, f1, bd_t, if_neg (show ¬ nI 1 = nI 0 by decide), dr_mp, h.mm, f2, bd_t, dr_mp, h.mm, ms_i hg h 6 (by omega), le_t, g1]
    · rw [g3, u_ne (by omega)]
      exact f4
  · rw [if_neg h1, if_neg h1, if_neg h1, if_pos (show nI 0 = 0 from rfl)]
    refine ⟨_, ⟨?_, u_s⟩, MU_0 hw (nI 1)⟩
    unfold j_X5_run_13
    rw [show ((1 : Int32)) = nI 1 from rfl, dr_mp, h.mm, (q_no hg h hw (c := nI 1) (by decide)).1, bd_t, if_pos (show nI 0 = 0 from rfl)]
    rfl
end RR
