/-! THE REFERENCE'S FACE: most, needed -/
theorem cap_sum {v : AS} (hI : IV v) (j : Nat) (ab : Int32) : ∀ n, n ≤ 8 → sm (fun p => if bi j p then (if nI p = ab then 0 else e_cap v p) else 0) n ≤ n * 20000 := fun n hn => sm_le n (fun p hp => by
  have := e_cap2 hI (p := p) (by omega)
  split
  · split <;> omega
  · omega)
section MW3
variable {S : PH} {G : Nat → Nat} {m : Nat} {u v : AS} {hs : List AS} {sl : Nat → Option AS} {tn : Nat} {tx : Nat → Int32}
theorem o_59 (h : RM S G m) (hI : IV v) (hc : cr (u 1) 0 (a_n v) v) (hy : ∀ q, q < a_n v → u 11 q = mk8 (e_ab v q) 8) {ab : Int32} (hab : ab = nM ∨ ∃ a, a < 8 ∧ ab = nI a) {lo set : Nat} (hlo : lo ≤ 1000) (hset : set < 256) : lp (st_X5_mostWithout_59 (some m) ab) (nI lo, nI set, nI 0, nI 0, mput S G u) = some (.inl (nI (if e_cut v ab set < lo then e_cut v ab set else lo), nI (set + 1), mput S G u)) := by
  have n8 : ∀ i, i < 8 → ¬ (8 : Int32) ≤ nI i := fun i hi => by
    show ¬ nI 8 ≤ nI i
    rw [nI_leI (by omega) (by omega)]
    omega
  refine lpF 8 (fun i => (nI lo, nI set, nI (sm (fun p => if bi set p then (if nI p = ab then 0 else e_cap v p) else 0) i), nI i, mput S G u)) _ rfl (fun i hi => ?_) ?_
  · have e1 : nI i + 1 = nI (i + 1) := nI_add i 1
    have e9 : (9 : Int32) + nI i = nI (9 + i) := nI_add 9 i
    have ec : nI (nv v 2 i - nv v 3 i) / (2 : Int32) = nI (e_cap v i) := pk_div (d := 2) (by have := (hI.go hi).2; omega) (by omega) (by omega)
    have et : u 1 (9 + i) = nI (nv v 2 i - nv v 3 i) := (hc.t hi).trans (hI.tok hi)
    have e : sm (fun p => if bi set p then (if nI p = ab then 0 else e_cap v p) else 0) (i + 1) = sm (fun p => if bi set p then (if nI p = ab then 0 else e_cap v p) else 0) i + (if bi set i then (if nI i = ab then 0 else e_cap v i) else 0) := rfl
    rw [e]
    unfold st_X5_mostWithout_59
    dsimp only
    rw [if_neg (n8 i hi), o_has, bd_t, e1]
    show (if (if bi set i = true then nI 1 else nI 0) = 0 then _ else _) = _
    cases g : bi set i with
    | false =>
      rw [if_pos (show (if false = true then nI 1 else nI 0) = 0 from rfl), if_neg Bool.false_ne_true, show ((0 : Int32)) = nI 0 from rfl, nI_add, le_t]
    | true =>
      rw [if_neg (show ¬ (if true = true then nI 1 else nI 0) = 0 by decide), if_pos rfl]
      by_cases ga : nI i = ab
      · rw [if_pos ga, if_pos ga, show ((0 : Int32)) = nI 0 from rfl, nI_add, le_t]
      · rw [if_neg ga, if_neg ga, dr_mp, h.mm, R_mp, dr_mp, h.s, N_mp, h.ns, e9, ck_n (by omega) (by omega), n_cl (by omega), mg_1 h, et, ec, nI_add, le_t]
  · have bnd := cap_sum hI set ab 8 (Nat.le_refl 8)
    have fin : ∀ y, ((ab = nM ∧ y = nI 0) ∨ ∃ a, a < 8 ∧ ab = nI a ∧ y = mb a) → lp (st_X5_mostWithout_131 (some m) ab) (nI lo, nI set, nI (sm (fun p => if bi set p then (if nI p = ab then 0 else e_cap v p) else 0) 8), (255 : Int32) - (nI set ||| y), (0 : Int32), mput S G u) = some (.inl (nI (if e_cut v ab set < lo then e_cut v ab set else lo), nI (set + 1), mput S G u)) := by
      intro y hy2
      obtain ⟨k, k1, k2, k3⟩ := left_n hset hy2
      rw [k2]
      exact o_131 h hI hc hy k1 k3 hlo (by omega)
    unfold st_X5_mostWithout_59
    dsimp only
    rw [if_pos (show (8 : Int32) ≤ nI 8 from Int32.le_refl _)]
    rcases hab with e | ⟨a, a8, e⟩
    · rw [if_pos (show ab = -1 from e), le_t, fin 0 (Or.inl ⟨e, rfl⟩)]
      rfl
    · have b1 : (1 : Int32) <<< (ab &&& 31) = mb a := by rw [e]; rfl
      rw [if_neg (show ¬ ab = -1 from fun z => nM_ne (j := a) (by omega) (e.symm.trans z)), b1, le_t, fin (mb a) (Or.inr ⟨a, a8, e, rfl⟩)]
      rfl
theorem o_mostW (hg : Gi G) (h : RM S G m) (hI : IV v) (hc : cr (u 1) 0 (a_n v) v) {ab : Int32} (hab : ab = nM ∨ ∃ a, a < 8 ∧ ab = nI a) : ∃ u', m_X5_mostWithout (some m) ab (mput S G u) = some (nI (m_v v ab), mput S G u') ∧ s11 u u' := by
  have hn := hI.in_.2
  obtain ⟨t', ⟨u1, rfl, k2, k3⟩, h4⟩ := lp_rel (step := st_X5_mostWithout_2 (some m) ab) (t := (nI 0, mput S G u)) 8 (fun i t => ∃ u', t = (nI i, mput S G u') ∧ s11 u u' ∧ ∀ q, q < i → q < a_n v → u' 11 q = mk8 (e_ab v q) 8) ⟨u, rfl, fun _ _ => rfl, fun q hq => by omega⟩ (fun i hi t ht => by
    obtain ⟨u', rfl, k2, k3⟩ := ht
    have hc' : cr (u' 1) 0 (a_n v) v := by rw [k2 1 (by omega)]; exact hc
    have e1 : nI i + 1 = nI (i + 1) := nI_add i 1
    have n8 : ¬ (8 : Int32) ≤ nI i := by
      show ¬ nI 8 ≤ nI i
      rw [nI_leI (by omega) (by omega)]
      omega
    have u8 : u' 1 8 = nI (a_n v) := hc'.i.1.trans hI.in_.1
    have j33 : ∀ y, j_X5_mostWithout_33 (some m) ab (nI i) (p_R S m 11) (nI i) y (mput S G u') = some (.inl (nI (i + 1), mput S G (u_2 u' 11 i y))) := by
      intro y
      unfold j_X5_mostWithout_33
      rw [dr_mp, h.y, N_mp, h.ny, ck_n hi (by omega), n_cl (by omega), ms_11 hg h, le_t, e1]
    unfold st_X5_mostWithout_2
    dsimp only
    rw [if_neg n8, dr_mp, h.mm, R_mp, dr_mp, h.s, N_mp, h.ns, show ((8 : Int32)) = nI 8 from rfl, ck_n (by omega) (by omega), mg_1 h, u8]
    have keep : ∀ y, (i < a_n v → y = mk8 (e_ab v i) 8) → s11 u (u_2 u' 11 i y) ∧ ∀ q, q < i + 1 → q < a_n v → u_2 u' 11 i y 11 q = mk8 (e_ab v q) 8 := by
      intro y hy
      refine ⟨fun f hf => (u_ne hf).trans (k2 f hf), fun q hq hq2 => ?_⟩
      by_cases e : q = i
      · rw [e, u_s]; exact hy (by omega)
      · rw [u_k e]; exact k3 q (by omega) hq2
    by_cases g : a_n v ≤ i
    · rw [if_pos (show nI (a_n v) ≤ nI i by rw [nI_leI (by omega) (by omega)]; exact g), j33]
      exact ⟨_, rfl, _, rfl, keep _ (fun z => by omega)⟩
    · rw [if_neg (show ¬ nI (a_n v) ≤ nI i by rw [nI_leI (by omega) (by omega)]; exact g), o_able (hM h) (cI h hc') hn hI (by omega), bd_t, j33]
      exact ⟨_, rfl, _, rfl, keep _ (fun _ => rfl)⟩)
  have hc' : cr (u1 1) 0 (a_n v) v := by rw [k2 1 (by omega)]; exact hc
  have hy : ∀ q, q < a_n v → u1 11 q = mk8 (e_ab v q) 8 := fun q hq => k3 q (by omega) hq
  refine ⟨u1, ?_, k2⟩
  rw [← cut_min hI ab]
  unfold m_X5_mostWithout
  rw [show ((0 : Int32)) = nI 0 from rfl, h4]
  refine lp_inr ?_
  obtain ⟨F, hF⟩ : ∃ F : Nat → Nat, e_cut v ab = F := ⟨_, rfl⟩
  have key : lp (st_X5_mostWithout_46 (some m) ab) (nI 1000, nI 0, mput S G u1) = some (nI (a_mn F 256), mput S G u1) := by
    refine lpF 256 (fun i => (nI (a_mn F i), nI i, mput S G u1)) _ rfl (fun i hi => ?_) ?_
    · have e : a_mn F (i + 1) = (if F i < a_mn F i then F i else a_mn F i) := rfl
      have k := o_59 h hI hc' hy hab (lo := a_mn F i) (mn_1000 F i) hi
      rw [hF] at k
      unfold st_X5_mostWithout_46
      dsimp only
      rw [if_neg (show ¬ (256 : Int32) ≤ nI i by show ¬ nI 256 ≤ nI i; rw [nI_leI (by omega) (by omega)]; omega), show ((0 : Int32)) = nI 0 from rfl, k, e]
    · unfold st_X5_mostWithout_46
      dsimp only
      rw [if_pos (show (256 : Int32) ≤ nI 256 from Int32.le_refl _)]
      rfl
  rw [hF]
  unfold st_X5_mostWithout_2
  dsimp only
  rw [if_pos (show (8 : Int32) ≤ nI 8 from Int32.le_refl _), show ((0 : Int32)) = nI 0 from rfl, show ((1000 : Int32)) = nI 1000 from rfl, key]
  rfl
theorem o_need (hg : Gi G) (h : RM S G m) (hI : IV v) (hc : cr (u 1) 0 (a_n v) v) : ∃ u', m_X5_neededOne (some m) (mput S G u) = some (f_need v, mput S G u') ∧ s11 u u' := by
  unfold f_need
  obtain ⟨A, hA⟩ : ∃ A : Nat → Nat, (fun p => m_v v (nI p)) = A := ⟨_, rfl⟩
  have eA : ∀ p, m_v v (nI p) = A p := fun p => congrFun hA p
  rw [hA]
  have l64 : ∀ i, A i ≤ 64 := fun i => by rw [← eA]; exact m_v64 hI _
  obtain ⟨u0, z1, z2⟩ := o_mostW hg h hI hc (ab := nI 0) (Or.inr ⟨0, by omega, rfl⟩)
  rw [eA] at z1
  obtain ⟨t', ⟨u1, rfl, k2⟩, h4⟩ := lp_rel (step := st_X5_neededOne_10 (some m)) (t := (nI 0, nI (A 0), nI 1, mput S G u0)) 7 (fun i t => ∃ u', t = (nI (a_nd A i).1, nI (a_nd A i).2, nI (i + 1), mput S G u') ∧ s11 u u') ⟨u0, rfl, z2⟩ (fun i hi t ht => by
    obtain ⟨u', rfl, k2⟩ := ht
    have hc' : cr (u' 1) 0 (a_n v) v := by rw [k2 1 (by omega)]; exact hc
    obtain ⟨u2, y1, y2⟩ := o_mostW hg h hI hc' (ab := nI (i + 1)) (Or.inr ⟨i + 1, by omega, rfl⟩)
    rw [eA] at y1
    have s2 : s11 u u2 := fun f hf => (y2 f hf).trans (k2 f hf)
    have e1 : nI (i + 1) + 1 = nI (i + 1 + 1) := nI_add (i + 1) 1
    have n8 : ¬ (8 : Int32) ≤ nI (i + 1) := by
      show ¬ nI 8 ≤ nI (i + 1)
      rw [nI_leI (by omega) (by omega)]
      omega
    have e : a_nd A (i + 1) = (if (a_nd A i).2 ≤ A (i + 1) then a_nd A i else (i + 1, A (i + 1))) := rfl
    have b1 := (nd_le _ l64 i).2
    have b2 := l64 (i + 1)
    rw [e]
    generalize a_nd A i = R at *
    unfold st_X5_neededOne_10
    dsimp only
    rw [if_neg n8, dr_mp, h.mm, y1, bd_t]
    unfold j_X5_neededOne_34
    by_cases g : R.2 ≤ A (i + 1)
    · have g' : nI R.2 ≤ nI (A (i + 1)) := by rw [nI_leI (by omega) (by omega)]; exact g
      rw [if_pos g', if_pos g', if_pos g, e1]
      exact ⟨_, rfl, u2, rfl, s2⟩
    · have g' : ¬ nI R.2 ≤ nI (A (i + 1)) := by rw [nI_leI (by omega) (by omega)]; exact g
      rw [if_neg g', if_neg g', if_neg g, e1]
      exact ⟨_, rfl, u2, rfl, s2⟩)
  refine ⟨u1, ?_, k2⟩
  unfold m_X5_neededOne
  rw [dr_mp, h.mm, show ((0 : Int32)) = nI 0 from rfl, z1, bd_t, show ((1 : Int32)) = nI 1 from rfl, h4]
  refine lp_inr ?_
  unfold st_X5_neededOne_10
  dsimp only
  rw [if_pos (show (8 : Int32) ≤ nI (7 + 1) from Int32.le_refl _)]
  rfl
theorem q_most (hg : Gi G) (h : RM S G m) (hI : IV v) (hu : MU u v hs sl tn tx) (i : Int32) : ∃ u', RES (m_X5_most (some m) i (mput S G u)) S G (fun _ => nI 1) u' (f_most v i) ∧ MU u' v hs sl tn tx := by
  unfold m_X5_most f_most
  rw [show ((0 : Int32)) = nI 0 from rfl, show (1 : Int32) = nI 1 from rfl, o_in, bd_t]
  by_cases h1 : a_in i (nI 0) (nI 1) = true
  · rw [if_pos h1, if_pos h1, if_neg (show ¬ nI 1 = nI 0 by decide)]
    have hu0 := MU_0 hu (nI 0)
    obtain ⟨u', g1, g2⟩ := o_mostW hg h hI hu0.1 (ab := nM) (Or.inl rfl)
    refine ⟨u', ⟨?_, by rw [g2 0 (by omega)]; exact u_s⟩, MU_11 hu0 g2⟩
    unfold j_X5_most_15
    rw [dr_mp, h.mm, o_holds hg h, if_pos rfl, bd_t, if_neg (show ¬ nI 1 = 0 by decide), dr_mp, h.mm, ← m_1, g1, bd_t]
  · rw [if_neg h1, if_neg h1, if_pos rfl]
    refine ⟨_, ⟨?_, u_s⟩, MU_0 hu (nI 1)⟩
    unfold j_X5_most_15
    rw [dr_mp, h.mm, (q_no hg h hu (c := nI 1) (by decide)).1, bd_t, if_pos (show nI 0 = 0 from rfl)]
    rfl
theorem q_need (hg : Gi G) (h : RM S G m) (hI : IV v) (hu : MU u v hs sl tn tx) : ∃ u', m_X5_needed (some m) (mput S G u) = some (f_need v, mput S G u') ∧ u' 0 0 = nI 0 ∧ MU u' v hs sl tn tx := by
  have hu0 := MU_0 hu (nI 0)
  obtain ⟨u', g1, g2⟩ := o_need hg h hI hu0.1
  refine ⟨u', ?_, by rw [g2 0 (by omega)]; exact u_s, MU_11 hu0 g2⟩
  unfold m_X5_needed
  rw [dr_mp, h.mm, show ((0 : Int32)) = nI 0 from rfl, ms_i hg h 0 (by omega), le_t, dr_mp, h.mm, g1, bd_t]
end MW3
