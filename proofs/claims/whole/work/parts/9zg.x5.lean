/-! THE START: the reference's object -/
theorem RM.Wm {S : PH} {G : Nat → Nat} {m : Nat} {f : Nat → Prop} (h : RM S G m) : wdr S 5 (some m) f = f m := wdr_e h.1.1
theorem RM.Ws {S : PH} {G : Nat → Nat} {m : Nat} {f : Nat → Prop} (h : RM S G m) : wdr S 6 (p_R S m 1) f = f (rf S m 1) := h.2.1.1.W
theorem wdr_mp {S : PH} {G : Nat → Nat} {u : AS} {c : Nat} {r : Option Nat} {f : Nat → Prop} : wdr (mput S G u) c r f = wdr S c r f := rfl
/-- the reference's row of numbers as it is made, after i persons -/
def zm (i : Nat) : AS := fun f k => if f = 1 then (if k = 0 then nI 100 else if k = 4 then nI 3 else if k = 5 then nI 1 else if k = 6 then nI 4 else if k = 7 then nI 1 else if 17 ≤ k ∧ k < 17 + i then nI 15 else nI 0) else nI 0
theorem zm_0 : u_2 (u_2 (u_2 (u_2 (u_2 (fun _ _ => nI 0) 1 0 (nI 100)) 1 4 (nI 3)) 1 5 (nI 1)) 1 6 (nI 4)) 1 7 (nI 1) = zm 0 := by
  funext f k
  unfold u_2 zm
  by_cases hf : f = 1
  · subst hf
    by_cases h7 : k = 7
    · subst h7; rfl
    · rw [if_neg (fun z => h7 z.2)]
      by_cases h6 : k = 6
      · subst h6; rfl
      · rw [if_neg (fun z => h6 z.2)]
        by_cases h5 : k = 5
        · subst h5; rfl
        · rw [if_neg (fun z => h5 z.2)]
          by_cases h4 : k = 4
          · subst h4; rfl
          · rw [if_neg (fun z => h4 z.2)]
            by_cases h0 : k = 0
            · subst h0; rfl
            · rw [if_neg (fun z => h0 z.2), if_pos rfl, if_neg h0, if_neg h4, if_neg h5, if_neg h6, if_neg h7, if_neg (by omega)]
  · rw [if_neg (fun z => hf z.1), if_neg (fun z => hf z.1), if_neg (fun z => hf z.1), if_neg (fun z => hf z.1), if_neg (fun z => hf z.1), if_neg hf]
theorem zm_s {i : Nat} : u_2 (zm i) 1 (17 + i) (nI 15) = zm (i + 1) := by
  funext f k
  unfold u_2 zm
  by_cases hf : f = 1
  · subst hf
    rw [if_pos rfl, if_pos rfl]
    by_cases hk : k = 17 + i
    · rw [if_pos ⟨rfl, hk⟩, if_neg (by omega), if_neg (by omega), if_neg (by omega), if_neg (by omega), if_neg (by omega), if_pos (by omega)]
    · rw [if_neg (fun z => hk z.2)]
      by_cases h1 : 17 ≤ k ∧ k < 17 + i
      · rw [if_pos h1, if_pos (show 17 ≤ k ∧ k < 17 + (i + 1) by omega)]
      · rw [if_neg h1, if_neg (show ¬ (17 ≤ k ∧ k < 17 + (i + 1)) by omega)]
  · rw [if_neg (fun z => hf z.1), if_neg hf, if_neg hf]
theorem an_v0 : a_n v0 = 0 := rfl
theorem mu_v0 : MU (zm 8) v0 [] (fun _ => none) 0 (fun _ => 0) := by
  refine ⟨?_, ⟨rfl, Nat.zero_le _⟩, fun i w hw => absurd hw (by simp), fun i hi => ⟨fun _ => rfl, fun w hw => absurd hw (by simp)⟩, rfl, by omega, rfl⟩
  rw [an_v0]
  intro f p h
  unfold vd at h
  rcases h with h | h | h | h | h | h
  · rcases (show f = 0 ∨ f = 1 ∨ f = 2 ∨ f = 3 ∨ f = 4 by omega) with rfl | rfl | rfl | rfl | rfl <;>
    rcases (show p = 0 ∨ p = 1 ∨ p = 2 ∨ p = 3 ∨ p = 4 ∨ p = 5 ∨ p = 6 ∨ p = 7 by omega) with rfl | rfl | rfl | rfl | rfl | rfl | rfl | rfl <;> rfl
  · omega
  · obtain ⟨rfl, h2⟩ := h
    rcases (show p = 0 ∨ p = 1 ∨ p = 2 ∨ p = 3 by omega) with rfl | rfl | rfl | rfl <;> rfl
  · obtain ⟨h1, h2, rfl⟩ := h
    rcases (show f = 12 ∨ f = 13 ∨ f = 14 ∨ f = 15 ∨ f = 16 by omega) with rfl | rfl | rfl | rfl | rfl <;> rfl
  · omega
  · obtain ⟨rfl, h2⟩ := h
    rcases (show p = 0 ∨ p = 1 ∨ p = 2 ∨ p = 3 ∨ p = 4 ∨ p = 5 ∨ p = 6 ∨ p = 7 by omega) with rfl | rfl | rfl | rfl | rfl | rfl | rfl | rfl <;> rfl
theorem iv_v0 : IV v0 := by
  have e20 : ∀ q, q < 8 → ∀ p, p < 8 → v0 (20 + q) p = nM := by
    intro q hq p hp
    unfold v0
    rw [if_neg (by omega), if_pos (by omega), if_pos hp]
    rfl
  refine ⟨nat_nI (j := 0) rfl (by omega) (by omega), ⟨⟨nat_nI (j := 3) rfl (by omega) (by omega), by decide⟩, nat_nI (j := 1) rfl (by omega) (by omega), nat_nI (j := 4) rfl (by omega) (by omega), nat_nI (j := 1) rfl (by omega) (by omega)⟩, ⟨nat_nI (j := 0) rfl (by omega) (by omega), nat_nI (j := 100) rfl (by omega) (by omega), fun p _ => ⟨nat_nI (j := 0) rfl (by omega) (by omega), nat_nI (j := 0) rfl (by omega) (by omega), Nat.le_refl _⟩, by decide⟩, fun p hp => ?_, fun q hq p hp => Or.inl (e20 q hq p hp), fun q _ hq => ⟨e20 q hq, rfl, rfl, rfl⟩, fun q _ => ⟨nat_nI (j := 0) rfl (by omega) (by omega), nat_nI (j := 0) rfl (by omega) (by omega)⟩, ⟨fun p _ => nat_nI (j := 0) rfl (by omega) (by omega), fun p q hp hq => ?_⟩, aw_v0⟩
  · rcases (show p = 0 ∨ p = 1 ∨ p = 2 ∨ p = 3 ∨ p = 4 ∨ p = 5 ∨ p = 6 ∨ p = 7 by omega) with rfl | rfl | rfl | rfl | rfl | rfl | rfl | rfl <;> decide
  · have e1 : ∀ p, v0 1 p = nI 0 := fun p => rfl
    rw [e1, e1, hb_0 q hq, hb_0 p hp]
    exact ⟨rfl, rfl⟩
theorem ivs_v0 : IVs v0 [] (fun _ => none) := ⟨iv_v0, fun w hw => absurd hw (by simp), fun i w _ hw => absurd hw (by simp)⟩
theorem wk_X5_init {S : PH} {G : Nat → Nat} {U : Nat → Prop} (hw : GW S G) (hU : UT G U) (hn : ∀ t, 2001 ≤ t → t < 2013 → ¬ U t) {K : Nat → PH → Prop} (hK : ∀ q S' G', GW S' G' → ol S G S' G' → UT G' (fun t => U t ∨ (2001 ≤ t ∧ t < 2013)) → q ∉ p_L S → RelM S' G' q v0 [] (fun _ => none) 0 (fun _ => 0) → K q S') : wnw S fun q4 => wle (s_N S q4 5 0) fun S6 => wdr S6 5 (some q4) fun _ => w_X5_init (some q4) S6 (wq (fun _ S12 => K q4 S12) (fun _ _ => False)) := by
  intro q hq
  have hk1 : q ∈ p_L (s_N S q 5 0) ∧ p_K (s_N S q 5 0) q = 5 := ⟨List.mem_append_right _ List.mem_cons_self, va_s⟩
  refine wdr_t hk1 ?_
  unfold w_X5_init
  refine wdr_t hk1 ?_
  have h0 := ao_start (c := 5) (B := 2001) (E := 2012) (TB := 0) hw hU hq (t := 2012) (by omega) (hn 2012 (by omega) (by omega)) (by omega) (fun e e1 e2 => hn e (by omega) (by omega))
  refine h0.arr 1 6 1449 2001 (by omega) List.not_mem_nil (by omega) (by omega) (by simp) (fun hb => hb.elim) (fun S1 G1 h1 => ?_)
  refine h1.arr 3 7 2 2003 (by omega) (by simp only [List.mem_cons, List.not_mem_nil, or_false]; omega) (by omega) (by omega) (by simp) (fun hb => hb.elim) (fun S2 G2 h2 => ?_)
  refine h2.arr 4 6 60 2004 (by omega) (by simp only [List.mem_cons, List.not_mem_nil, or_false]; omega) (by omega) (by omega) (by simp) (fun hb => hb.elim) (fun S3 G3 h3 => ?_)
  refine h3.arr 11 6 8 2011 (by omega) (by simp only [List.mem_cons, List.not_mem_nil, or_false]; omega) (by omega) (by omega) (by simp) (fun hb => hb.elim) (fun S4 G4 h4 => ?_)
  obtain ⟨w4, o4, u4⟩ := ao_end hU hq h4 (V := fun t => 2001 ≤ t ∧ t < 2013) ⟨by omega, fun e he => by
    simp only [List.mem_cons, List.not_mem_nil, or_false] at he
    omega⟩
  have F := h4.fs
  simp only [List.forall_mem_cons] at F
  obtain ⟨f11, f4, f3, f1, _⟩ := F
  have h : RM S4 G4 q := ⟨h4.o, f1.1.1, f3.1.1, f4.1.1, f11.1.1⟩
  have hI := h4.i
  have hg : Gi G4 := w4.1
  have z11 := f11.1.2
  have z4 := f4.1.2
  have z3 := f3.1.2
  have z1 := f1.1.2
  clear h0 h1 h2 h3 h4 f11 f4 f3 f1
  have e0 : S4 = mput S4 G4 (fun _ _ => 0) := by
    refine put_eq rfl rfl rfl ?_ rfl rfl rfl
    show p_I S4 = mvv (p_I S4) G4 (fun _ _ => 0)
    funext a k
    unfold mvv
    split
    · rename_i c
      have e : a = q := hg a q (by omega) (c.trans h.1.2.symm)
      rw [e, hI]
      split <;> rfl
    · split
      · rename_i c
        have e : a = rf S4 q 1 := hg a _ (by omega) (c.trans h.2.1.2.symm)
        rw [e]
        exact congrFun z1 k
      · split
        · rename_i c
          have e : a = rf S4 q 3 := hg a _ (by omega) (c.trans h.2.2.1.2.symm)
          rw [e]
          exact congrFun z3 k
        · split
          · rename_i c
            have e : a = rf S4 q 4 := hg a _ (by omega) (c.trans h.2.2.2.1.2.symm)
            rw [e]
            exact congrFun z4 k
          · split
            · rename_i c
              have e : a = rf S4 q 11 := hg a _ (by omega) (c.trans h.2.2.2.2.2.symm)
              rw [e]
              exact congrFun z11 k
            · rfl
  have fin : ∀ u, MU u v0 [] (fun _ => none) 0 (fun _ => 0) → K q (mput S4 G4 u) := by
    intro u hu
    refine hK q _ G4 ⟨w4.1, w4.2⟩ (fun d hd => ?_) u4 hq (relM_put h hu)
    obtain ⟨k1, k2⟩ := o4 d hd
    refine ⟨sme_tr k1 ⟨k1.1, rfl, rfl, ?_, rfl, rfl, rfl⟩, k2⟩
    have ht : ¬ (2001 ≤ G4 d ∧ G4 d < 2013) := by
      intro z
      rw [k2] at z
      rcases hU d with k | k
      · omega
      · exact hn _ z.1 z.2 k
    funext k
    show mvv (p_I S4) G4 u d k = p_I S4 d k
    unfold mvv
    rw [if_neg (by omega), if_neg (by omega), if_neg (by omega), if_neg (by omega), if_neg (by omega)]
  clear hK hU hn o4 u4 hw hq hk1 z11 z4 z3 z1 hI
  rw [e0]
  simp (disch := omega) only [z_0, z_1, z_2, z_3, z_4, z_5, z_6, z_7, z_8, z_9, z_10, z_12, z_13, z_15, z_17, z_20, z_25, z_31, z_33, z_41, z_49, z_57, z_60, z_72, z_100, z_161, z_255, z_256, z_999, z_9999, of_n, nI_add, pk_mul, n_le, n_lt, n_eq, n_cl, ck_n, ck_d, ck_tr, le_t, bd_t, ir_t, bt_r, bt_l, b_t, b_f, b_lt, b_lf, b_ef, z_m1, b_i0, b_i1, z_not, z_ps, f_mb, f_rf, ↓reduceIte, Nat.zero_add, Nat.add_zero, Nat.one_mul, Nat.mul_one, Nat.zero_mul, Nat.mul_zero, not_true_eq_false, not_false_eq_true, wdr_mp, wle_t, wck_n, N_mp, R_mp, rf_mp, h.Wm, h.Ws, h.ns, ms_1 hg h, zm_0]
  refine wlp_go (fun i t => t = (nI i, mput S4 G4 (zm i))) 8 (fun K2 t ht => ?_) (fun i hi K2 hK2 t ht => ?_) _ rfl
  · subst ht
    simp (disch := omega) only [wst_X5_init_76, z_0, z_1, z_2, z_3, z_4, z_5, z_6, z_7, z_8, z_9, z_10, z_12, z_13, z_15, z_17, z_20, z_25, z_31, z_33, z_41, z_49, z_57, z_60, z_72, z_100, z_161, z_255, z_256, z_999, z_9999, of_n, nI_add, pk_mul, n_le, n_lt, n_eq, n_cl, ck_n, ck_d, ck_tr, le_t, bd_t, ir_t, bt_r, bt_l, b_t, b_f, b_lt, b_lf, b_ef, z_m1, b_i0, b_i1, z_not, z_ps, f_mb, f_rf, ↓reduceIte, Nat.zero_add, Nat.add_zero, Nat.one_mul, Nat.mul_one, Nat.zero_mul, Nat.mul_zero, not_true_eq_false, not_false_eq_true]
    exact fin _ mu_v0
  · subst ht
    simp (disch := omega) only [wst_X5_init_76, z_0, z_1, z_2, z_3, z_4, z_5, z_6, z_7, z_8, z_9, z_10, z_12, z_13, z_15, z_17, z_20, z_25, z_31, z_33, z_41, z_49, z_57, z_60, z_72, z_100, z_161, z_255, z_256, z_999, z_9999, of_n, nI_add, pk_mul, n_le, n_lt, n_eq, n_cl, ck_n, ck_d, ck_tr, le_t, bd_t, ir_t, bt_r, bt_l, b_t, b_f, b_lt, b_lf, b_ef, z_m1, b_i0, b_i1, z_not, z_ps, f_mb, f_rf, ↓reduceIte, Nat.zero_add, Nat.add_zero, Nat.one_mul, Nat.mul_one, Nat.zero_mul, Nat.mul_zero, not_true_eq_false, not_false_eq_true, wdr_mp, wle_t, wck_n, N_mp, R_mp, rf_mp, h.Wm, h.Ws, h.ns, ms_1 hg h, zm_s]
    exact hK2 _ rfl
/-- THE START -/
theorem start_law {S0 : PH} {KH : Option Nat → Option Nat → Option Nat → Option Nat → Int32 → PH → Prop} (hK : ∀ x nw m oj oe S, LWE x nw m oj oe S → KH (some x) (some m) (some oj) (some oe) 0 S) : w_law_start S0 KH := by
  intro x hx
  have k1 : x ∈ p_L (s_N S0 x 4 0) ∧ p_K (s_N S0 x 4 0) x = 4 := ⟨List.mem_append_right _ List.mem_cons_self, va_s⟩
  refine wdr_t k1 (wk_X4_init ⟨fun a c h0 _ => absurd rfl h0, fun _ _ => rfl⟩ k1 (fun S1 G1 qa qb qc qd qe qf p1 w1 u1 => ?_))
  refine wk_X5_init w1 u1 (fun t _ _ => by omega) (fun m S2 G2 w2 o2 u2 _ r2 => ?_)
  replace p1 := p1.k (ol_ks o2)
  refine sub_arr (t := 3001) w2 u2 (by omega) (by omega) (fun oj S3 G3 w3 o3 u3 _ a3 _ _ => ?_)
  replace p1 := p1.k (ol_ks o3)
  replace r2 := relM_fc r2 (fun d hd _ => o3 d hd) w3.1
  refine sub_arr (t := 3002) w3 u3 (by omega) (by omega) (fun oe S4 G4 w4 o4 u4 _ a4 _ _ => ?_)
  replace p1 := p1.k (ol_ks o4)
  replace r2 := relM_fc r2 (fun d hd _ => o4 d hd) w4.1
  have a3' := (sme_a (ol_ks o4) a3 (by omega)).1
  refine hK x qa m oj oe S4 ⟨G4, v0, [], 0, fun _ => none, 0, fun _ => 0, p0_rel p1 w4 (fun d => ?_), ivs_v0, r2, ⟨⟨a3'.1.2.1, a3'.2⟩, a3'.1.2.2⟩, ⟨a4.1.2.1, a4.2⟩, a4.1.2.2⟩
  rcases u4 d with k | k
  · exact Or.inl k
  · right
    omega
