/-! THE REFERENCE'S FACE: rounds -/
theorem itr_cnt (r : Nat → Int32) : ∀ i n, cnt (sc (a_itr r i)) n = cnt (sc r) n
  | 0, _ => rfl
  | i + 1, n => (bnr_cnt (a_itr r i) n).trans (itr_cnt r i n)
section MR
variable {S : PH} {G : Nat → Nat} {m : Nat} {u v : AS} {hs : List AS} {sl : Nat → Option AS} {tn : Nat} {tx : Nat → Int32}
theorem o_rounds (hg : Gi G) (h : RM S G m) {n : Nat} (hn : n ≤ 8) (hc : cr (u 1) 0 n v) {q : Nat} (hq : q < n) : ∃ u', m_X5_rounds (some m) (nI q) (mput S G u) = some ((a_rd (v (20 + q)) 21 0).1, mput S G u') ∧ s11 u u' := by
  generalize hr : v (20 + q) = r
  have n8 := cnt_le (sc r) 8
  have step2 : ∀ k, k ≤ 21 → ∀ w : AS, s11 u w → cmp (a_itr r (21 - k)) (w 11) 8 → ∃ u', lp (st_X5_rounds_49 (some m) (nI q)) (nI (cnt (sc r) 8), nI (21 - k), a_spr (a_itr r (21 - k)), mput S G w) = some ((a_rd r k (21 - k)).1, mput S G u') ∧ s11 u u' := by
    intro k
    induction k with
    | zero =>
      intro _ w hw hcm
      refine ⟨w, lp_inr ?_, hw⟩
      have e21 : j_X5_rounds_74 (some m) (nI q) (nI 21) (mput S G w) = some (nM, mput S G w) := rfl
      show st_X5_rounds_49 (some m) (nI q) (nI (cnt (sc r) 8), nI 21, a_spr (a_itr r 21), mput S G w) = _
      unfold st_X5_rounds_49
      dsimp only
      rw [e21]
      split
      · rfl
      · rfl
    | succ k ih =>
      intro hk w hw hcm
      have ei : 21 - k = (21 - (k + 1)) + 1 := by omega
      have hi : 21 - (k + 1) ≤ 20 := by omega
      rw [ei] at ih
      generalize 21 - (k + 1) = i at *
      have e : a_rd r (k + 1) i = (if nI 1 < a_spr (a_itr r i) then a_rd r k (i + 1) else (nI i, i)) := rfl
      rw [e]
      by_cases hsp : nI 1 < a_spr (a_itr r i)
      · rw [if_pos hsp]
        have h0 : 0 < cnt (sc (a_itr r i)) 8 := by
          rcases Nat.eq_zero_or_pos (cnt (sc (a_itr r i)) 8) with g | g
          · have eD := cmp_dif hcm
            rw [g] at eD
            have eD : nI 0 = a_spr (a_itr r i) := eD
            rw [← eD] at hsp
            exact absurd hsp (by decide)
          · exact g
        obtain ⟨w2, f1, f2, f3⟩ := o_talked hg h hcm h0
        rw [itr_cnt] at f1
        obtain ⟨u', g1, g2⟩ := ih (by omega) w2 (fun f hf => (f2 f hf).trans (hw f hf)) f3
        refine ⟨u', ?_, g2⟩
        rw [← g1]
        refine lp_inl ?_
        have l1 : ¬ a_spr (a_itr r i) ≤ (1 : Int32) := Int32.not_le.mpr hsp
        have l2 : ¬ (20 : Int32) < nI i := by
          show ¬ nI 20 < nI i
          rw [nI_ltI (by omega) (by omega)]
          omega
        have e1 : nI i + 1 = nI (i + 1) := nI_add i 1
        unfold st_X5_rounds_49
        dsimp only
        rw [if_neg l1, if_neg l2, dr_mp, h.mm, f1, bd_t, e1]
        rfl
      · rw [if_neg hsp]
        refine ⟨w, lp_inr ?_, hw⟩
        have l1 : a_spr (a_itr r i) ≤ (1 : Int32) := Int32.not_lt.mp hsp
        have l2 : nI i ≤ (20 : Int32) := by
          show nI i ≤ nI 20
          rw [nI_leI (by omega) (by omega)]
          exact hi
        unfold st_X5_rounds_49
        dsimp only
        rw [if_pos l1]
        unfold j_X5_rounds_74
        rw [if_pos l2]
        rfl
  obtain ⟨t', ⟨u1, rfl, k2, k3⟩, h4⟩ := lp_rel (step := st_X5_rounds_4 (some m) (nI q)) (t := (nI 0, nI 0, mput S G u)) 8 (fun i t => ∃ u', t = (nI (cnt (sc r) i), nI i, mput S G u') ∧ s11 u u' ∧ cmp r (u' 11) i) ⟨u, rfl, fun _ _ => rfl, fun p hp => by omega⟩ (fun i hi t ht => by
    obtain ⟨u', rfl, k2, k3⟩ := ht
    have hc' : cr (u' 1) 0 n v := by rw [k2 1 (by omega)]; exact hc
    have d5 : ¬ ((8 : Int32) ≤ nI i) := by show ¬ nI 8 ≤ nI i; rw [nI_leI (by omega) (by omega)]; omega
    have e1 : nI i + 1 = nI (i + 1) := nI_add i 1
    have hwr := o_isWritten (hM (u := u') h) (cI h hc') hn hi hq
    have hsc := o_score (hM (u := u') h) (cI h hc') hn hi hq
    rw [hr] at hwr hsc
    unfold st_X5_rounds_4
    dsimp only
    rw [if_neg d5, dr_mp, h.mm, hwr, bd_t, e1]
    cases hS : isS (r i) with
    | false =>
      rw [if_pos (show (if false = true then nI 1 else nI 0) = 0 from rfl)]
      have ec : cnt (sc r) (i + 1) = cnt (sc r) i := by
        have : bn (sc r i) = 0 := by show bn (isS (r i)) = 0; rw [hS]; rfl
        simp only [cnt, this, Nat.add_zero]
      refine ⟨_, rfl, u', by rw [ec], k2, fun p hp hs => ?_⟩
      by_cases e : p = i
      · rw [e, hS] at hs; cases hs
      · exact k3 p (by omega) hs
    | true =>
      rw [if_neg (show ¬ (if true = true then nI 1 else nI 0) = 0 by decide), dr_mp, h.mm, hsc, bd_t, R_mp]
      have ec : cnt (sc r) (i + 1) = cnt (sc r) i + 1 := by
        have : bn (sc r i) = 1 := by show bn (isS (r i)) = 1; rw [hS]; rfl
        simp only [cnt, this]
      have cle := cnt_le (sc r) i
      have e2 : nI (cnt (sc r) i) + 1 = nI (cnt (sc r) (i + 1)) := by rw [ec]; exact nI_add _ 1
      rw [dr_mp, h.y, N_mp, h.ny, ck_n (by omega) (by omega), n_cl (by omega), ms_11 hg h, le_t, e2]
      refine ⟨_, rfl, _, rfl, fun f hf => (u_ne hf).trans (k2 f hf), fun p hp hs => ?_⟩
      rw [u_self]
      unfold up1
      by_cases e : p = i
      · rw [e, if_pos rfl]
      · have hlt := cp_lt (P := sc r) (p := p) (n := i) (by omega) hs
        rw [if_neg (by omega)]
        exact k3 p (by omega) hs)
  have hc' : cr (u1 1) 0 n v := by rw [k2 1 (by omega)]; exact hc
  have hdf := o_dif (hM (u := u1) h) (cI h hc') hn hq
  rw [hr, dif_spr] at hdf
  obtain ⟨u', g1, g2⟩ := step2 21 (Nat.le_refl _) u1 k2 k3
  refine ⟨u', ?_, g2⟩
  unfold m_X5_rounds
  rw [show ((0 : Int32)) = nI 0 from rfl, h4]
  refine lp_inr ?_
  have d5 : (8 : Int32) ≤ nI 8 := Int32.le_refl _
  unfold st_X5_rounds_4
  dsimp only
  rw [if_pos d5, dr_mp, h.mm, hdf, bd_t]
  have g1 : lp (st_X5_rounds_49 (some m) (nI q)) (nI (cnt (sc r) 8), nI 0, a_spr r, mput S G u1) = _ := g1
  rw [show ((0 : Int32)) = nI 0 from rfl, g1]
  rfl
theorem q_rd (hg : Gi G) (h : RM S G m) (hI : IV v) (hu : MU u v hs sl tn tx) (j : Int32) : ∃ u', RES (m_X5_roundsToAgree (some m) j (mput S G u)) S G (fun _ => nI 1) u' (f_rd v j) ∧ MU u' v hs sl tn tx := by
  have hn := hI.in_.2
  have bad : ∀ c, ¬ c = nI 0 → j_X5_roundsToAgree_14 (some m) j (some m) c (mput S G u) = some (nI 0, mput S G (u_2 u 0 0 c)) := by
    intro c hc
    unfold j_X5_roundsToAgree_14
    rw [dr_mp, h.mm, (q_no hg h hu hc).1, bd_t, if_pos (show nI 0 = 0 from rfl)]
    rfl
  unfold m_X5_roundsToAgree f_rd
  rw [dr_mp, h.mm, o_isPaper hg h hI hu, bd_t]
  by_cases h2 : a_isP v j = true
  · rw [if_pos h2, if_pos h2, if_neg (show ¬ nI 1 = 0 by decide)]
    obtain ⟨q, hq, rfl⟩ := isP_n hI h2
    have hu0 := MU_0 hu (nI 0)
    obtain ⟨u', g1, g2⟩ := o_rounds hg h hn hu0.1 hq
    rw [n_cl (by omega)]
    generalize a_rd (v (20 + q)) 21 0 = R at g1 ⊢
    refine ⟨u', ⟨?_, by rw [g2 0 (by omega)]; exact u_s⟩, MU_11 hu0 g2⟩
    unfold j_X5_roundsToAgree_14
    rw [show ((0 : Int32)) = nI 0 from rfl, dr_mp, h.mm, o_holds hg h, if_pos rfl, bd_t, if_neg (show ¬ nI 1 = nI 0 by decide), dr_mp, h.mm, g1, bd_t]
  · rw [if_neg h2, if_neg h2, if_pos (show nI 0 = 0 from rfl)]
    exact ⟨_, ⟨bad _ (by decide), u_s⟩, MU_0 hu _⟩
end MR
