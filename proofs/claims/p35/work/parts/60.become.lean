/-! COPIES OF A STATE -/
theorem put_cg {S : PH} {G : Nat → Nat} {b : Nat} {v w : AS} (h1 : ∀ f, f < 10 ∨ f = 11 ∨ (20 ≤ f ∧ f < 28) → v f = w f) (h2 : ∀ f, 12 ≤ f → f < 17 → v f 0 = w f 0) : put S G b v = put S G b w := by
  refine put_eq rfl rfl rfl ?_ rfl rfl rfl
  funext d j
  show pv (p_I S) G b v d j = pv (p_I S) G b w d j
  unfold pv
  split
  · split
    · rename_i hc
      exact h2 j hc.1 hc.2
    · rfl
  · split
    · rename_i hc
      rw [h1 _ (by omega)]
    · rfl
section BC
variable {S : PH} {G : Nat → Nat} {ba bb a b : Nat} {v w z : AS}
theorem pv_o {c : Nat} {I : Nat → Nat → Int32} (hc : G c < 1000 + 100 * ba ∨ 1100 + 100 * ba ≤ G c) : pv I G ba v c = I c := by
  funext k
  unfold pv
  rw [if_neg (by omega), if_neg (by omega)]
/-- another State is as it was -/
theorem rep_o (hb : stB S G bb b) (hne : ba ≠ bb) (hr : rep S b w) : rep (put S G ba v) b w := by
  refine ⟨fun f hf => ?_, ?_, fun q hq => ?_, fun f h1 h2 => ?_⟩
  · show pv (p_I S) G ba v (rf S b f) = w f
    have := (hb.2.2.1 f hf).2
    rw [pv_o (by have : G (rf S b f) = 1000 + 100 * bb + f := this; omega)]
    exact hr.1 f hf
  · show pv (p_I S) G ba v (rf S b 11) = w 11
    have : G (rf S b 11) = 1011 + 100 * bb := hb.2.2.2.1.2
    rw [pv_o (by omega)]
    exact hr.2.1
  · show pv (p_I S) G ba v (rf S (rf S b 10) q) = w (20 + q)
    have : G (rf S (rf S b 10) q) = 1020 + 100 * bb + q := (hb.2.2.2.2 q hq).2
    rw [pv_o (by omega)]
    exact hr.2.2.1 q hq
  · show pv (p_I S) G ba v b f = w f 0
    have : G b = 1012 + 100 * bb := hb.1.2
    rw [pv_o (by omega)]
    exact hr.2.2.2 f h1 h2
theorem sW_t (hg : Gi G) {c t : Nat} {g : Nat → Int32} (hc : G c = 1000 + 100 * ba + t) (ht : t < 10 ∨ t = 11 ∨ 20 ≤ t) (ht2 : t < 28) : s_W (put S G ba v) c g = put S G ba (u_r v t g) := by
  refine put_eq rfl rfl rfl ?_ rfl rfl rfl
  funext d j
  show u_r (pv (p_I S) G ba v) c g d j = pv (p_I S) G ba (u_r v t g) d j
  by_cases e : d = c
  · subst e
    rw [pv_t hc ht ht2]
    unfold u_r
    rw [if_pos rfl, if_pos rfl]
  · have hne : G d ≠ G c := fun y => e (hg d c (by omega) y)
    unfold u_r
    rw [if_neg e]
    unfold pv
    split
    · split
      · show v j 0 = (if j = t then g else v j) 0
        rw [if_neg (by omega)]
      · rfl
    · split
      · show v (G d - (1000 + 100 * ba)) j = (if G d - (1000 + 100 * ba) = t then g else v (G d - (1000 + 100 * ba))) j
        rw [if_neg (by omega)]
      · rfl
theorem sW_f (hg : Gi G) (h : stB S G ba a) (f : Nat) (hf : f < 10) {g : Nat → Int32} : s_W (put S G ba v) (rf S a f) g = put S G ba (u_r v f g) := sW_t hg (h.2.2.1 f hf).2 (Or.inl hf) (by omega)
theorem sW_11 (hg : Gi G) (h : stB S G ba a) {g : Nat → Int32} : s_W (put S G ba v) (rf S a 11) g = put S G ba (u_r v 11 g) := sW_t hg (h.2.2.2.1.2.trans (by omega)) (Or.inr (Or.inl rfl)) (by omega)
theorem sW_w (hg : Gi G) (h : stB S G ba a) {q : Nat} (hq : q < 8) {g : Nat → Int32} : s_W (put S G ba v) (rf S (rf S a 10) q) g = put S G ba (u_r v (20 + q) g) := sW_t hg ((h.2.2.2.2 q hq).2.trans (by omega)) (Or.inr (Or.inr (by omega))) (by omega)
theorem cpy8 {f g : Nat → Int32} (h1 : ∀ k, 8 ≤ k → f k = 0) (h2 : ∀ k, 8 ≤ k → g k = 0) : va_cpy f g 0 0 8 = f := by
  funext k
  unfold va_cpy
  split
  · rw [Nat.zero_add, Nat.sub_zero]
  · rw [h1 k (by omega), h2 k (by omega)]
theorem cpy4 {f g : Nat → Int32} (h1 : ∀ k, 4 ≤ k → f k = 0) (h2 : ∀ k, 4 ≤ k → g k = 0) : va_cpy f g 0 0 4 = f := by
  funext k
  unfold va_cpy
  split
  · rw [Nat.zero_add, Nat.sub_zero]
  · rw [h1 k (by omega), h2 k (by omega)]
def mrg (v w : AS) (i : Nat) : AS := fun f => if f < 10 ∨ (20 ≤ f ∧ f < 20 + i) then w f else v f
theorem bc_j (hg : Gi G) (ha : stB S G ba a) (hb : stB S G bb b) (hne : ba ≠ bb) (hr : rep S b w) (hv : AW v) (hw : AW w) (j : Nat) (hj : j < 10) (hz : z j = v j) {β : Type} {K : PH → Option β} : (dr (put S G ba z) 2 (some b) fun a1 => dr (put S G ba z) 2 (some a) fun a4 => dr (put S G ba z) 6 (p_R (put S G ba z) a1 j) fun a7 => dr (put S G ba z) 6 (p_R (put S G ba z) a4 j) fun a10 => ck (decide (0 + 8 ≤ p_N (put S G ba z) a7)) <| ck (decide (0 + 8 ≤ p_N (put S G ba z) a10)) <| le_ (s_W (put S G ba z) a10 (va_cpy (p_I (put S G ba z) a7) (p_I (put S G ba z) a10) 0 0 8)) K) = K (put S G ba (u_r z j (w j))) := by
  have e1 : p_I (put S G ba z) (rf S b j) = w j := (rep_o hb hne hr).1 j hj
  have e2 : p_I (put S G ba z) (rf S a j) = z j := g_f ha j hj
  have e3 : va_cpy (w j) (z j) 0 0 8 = w j := by rw [hz]; exact cpy8 (fun k hk => hw.1 j k (Or.inl hj) hk) (fun k hk => hv.1 j k (Or.inl hj) hk)
  simp (disch := omega) only [dr_put, N_put, R_put, ha.o, hb.o, ha.d, hb.d, ha.n, hb.n, e1, e2, e3, sW_f hg ha, ck_d, le_t]
theorem p_become (hg : Gi G) (ha : stB S G ba a) (hb : stB S G bb b) (hne : ba ≠ bb) (hr : rep S b w) (hv : AW v) (hw : AW w) : m_X2_become (some a) (some b) (put S G ba v) = some ((), put S G ba w) := by
  have ro : ∀ z, rep (put S G ba z) b w := fun z => rep_o hb hne hr
  have of_ : ∀ (f : Nat) (z : AS), f < 10 → p_I (put S G ba z) (rf S b f) = w f := fun f z hf => (ro z).1 f hf
  have o11 : ∀ z, p_I (put S G ba z) (rf S b 11) = w 11 := fun z => (ro z).2.1
  have ow_ : ∀ (q : Nat) (z : AS), q < 8 → p_I (put S G ba z) (rf S (rf S b 10) q) = w (20 + q) := fun q z hq => (ro z).2.2.1 q hq
  have oi : ∀ (f : Nat) (z : AS), 12 ≤ f → f < 17 → p_I (put S G ba z) b f = w f 0 := fun f z h1 h2 => (ro z).2.2.2 f h1 h2
  have cp : ∀ f, f < 10 ∨ 20 ≤ f → va_cpy (w f) (v f) 0 0 8 = w f := fun f hf => cpy8 (fun k hk => hw.1 f k hf hk) (fun k hk => hv.1 f k hf hk)
  have cp11 : va_cpy (w 11) (v 11) 0 0 4 = w 11 := cpy4 hw.2 hv.2
  have V10 : u_r (u_r (u_r (u_r (u_r (u_r (u_r (u_r (u_r (u_r v 0 (w 0)) 1 (w 1)) 2 (w 2)) 3 (w 3)) 4 (w 4)) 5 (w 5)) 6 (w 6)) 7 (w 7)) 8 (w 8)) 9 (w 9) = mrg v w 0 := by
    funext f
    unfold mrg
    by_cases hf : f < 10
    · rw [if_pos (Or.inl hf)]
      rcases (show f = 0 ∨ f = 1 ∨ f = 2 ∨ f = 3 ∨ f = 4 ∨ f = 5 ∨ f = 6 ∨ f = 7 ∨ f = 8 ∨ f = 9 by omega) with rfl | rfl | rfl | rfl | rfl | rfl | rfl | rfl | rfl | rfl <;> rfl
    · rw [if_neg (by omega)]
      simp (disch := omega) only [ur_ne]
  have loop : lp (st_X2_become_152 (some a) (some b)) (nI 0, put S G ba (mrg v w 0)) = some ((), put S G ba w) := by
    refine lpF 8 (fun i => (nI i, put S G ba (mrg v w i))) _ rfl (fun i hi => ?_) ?_
    · have e : mrg v w i (20 + i) = v (20 + i) := by unfold mrg; rw [if_neg (by omega)]
      have e2 : u_r (mrg v w i) (20 + i) (w (20 + i)) = mrg v w (i + 1) := by
        funext f
        unfold u_r
        by_cases hf : f = 20 + i
        · rw [if_pos hf, hf]; unfold mrg; rw [if_pos (by omega)]
        · rw [if_neg hf]
          unfold mrg
          by_cases h9 : f < 10 ∨ (20 ≤ f ∧ f < 20 + i)
          · rw [if_pos h9, if_pos (by omega)]
          · rw [if_neg h9, if_neg (by omega)]
      simp (disch := omega) only [st_X2_become_152, dr_put, N_put, R_put, ha.o, hb.o, ha.ds, hb.ds, ha.ns, hb.ns, ha.dw, hb.dw, ha.nw, hb.nw, ow_, g_w ha, e, cp, sW_w hg ha, e2, z_0, z_1, z_2, z_3, z_4, z_5, z_6, z_7, z_8, z_9, z_10, z_12, z_13, z_15, z_17, z_20, z_25, z_31, z_33, z_41, z_49, z_57, z_60, z_72, z_100, z_161, z_255, z_256, z_999, z_9999, of_n, nI_add, pk_mul, n_le, n_lt, n_eq, n_cl, ck_n, ck_d, ck_tr, le_t, bd_t, ir_t, bt_r, bt_l, b_t, b_f, b_lt, b_lf, b_ef, z_m1, b_i0, b_i1, z_not, z_ps, f_mb, f_rf, ↓reduceIte, Nat.zero_add, Nat.add_zero, Nat.one_mul, Nat.mul_one, Nat.zero_mul, Nat.mul_zero, not_true_eq_false, not_false_eq_true]
    · have e11 : mrg v w 8 11 = v 11 := by unfold mrg; rw [if_neg (by omega)]
      simp (disch := omega) only [st_X2_become_152, dr_put, N_put, R_put, ha.o, hb.o, ha.d11, hb.d11, ha.n11, hb.n11, o11, g_f11 ha, e11, cp11, sW_11 hg ha, oi, s_i hg ha 12 (by decide) (by decide), s_i hg ha 13 (by decide) (by decide), s_i hg ha 14 (by decide) (by decide), s_i hg ha 15 (by decide) (by decide), s_i hg ha 16 (by decide) (by decide), z_0, z_1, z_2, z_3, z_4, z_5, z_6, z_7, z_8, z_9, z_10, z_12, z_13, z_15, z_17, z_20, z_25, z_31, z_33, z_41, z_49, z_57, z_60, z_72, z_100, z_161, z_255, z_256, z_999, z_9999, of_n, nI_add, pk_mul, n_le, n_lt, n_eq, n_cl, ck_n, ck_d, ck_tr, le_t, bd_t, ir_t, bt_r, bt_l, b_t, b_f, b_lt, b_lf, b_ef, z_m1, b_i0, b_i1, z_not, z_ps, f_mb, f_rf, ↓reduceIte, Nat.zero_add, Nat.add_zero, Nat.one_mul, Nat.mul_one, Nat.zero_mul, Nat.mul_zero, not_true_eq_false, not_false_eq_true]
      congr 3
      refine put_cg (fun f hf => ?_) (fun f h1 h2 => ?_)
      · rw [u_ne (by omega), u_ne (by omega), u_ne (by omega), u_ne (by omega), u_ne (by omega)]
        by_cases h11 : f = 11
        · rw [h11, ur_s]
        · rw [ur_ne h11]
          unfold mrg
          rw [if_pos (by omega)]
      · rcases (show f = 12 ∨ f = 13 ∨ f = 14 ∨ f = 15 ∨ f = 16 by omega) with rfl | rfl | rfl | rfl | rfl <;> rfl
  unfold m_X2_become
  rw [bc_j (z := v) hg ha hb hne hr hv hw 0 (by omega) rfl]
  rw [bc_j (z := u_r v 0 (w 0)) hg ha hb hne hr hv hw 1 (by omega) rfl]
  rw [bc_j (z := u_r (u_r v 0 (w 0)) 1 (w 1)) hg ha hb hne hr hv hw 2 (by omega) rfl]
  rw [bc_j (z := u_r (u_r (u_r v 0 (w 0)) 1 (w 1)) 2 (w 2)) hg ha hb hne hr hv hw 3 (by omega) rfl]
  rw [bc_j (z := u_r (u_r (u_r (u_r v 0 (w 0)) 1 (w 1)) 2 (w 2)) 3 (w 3)) hg ha hb hne hr hv hw 4 (by omega) rfl]
  rw [bc_j (z := u_r (u_r (u_r (u_r (u_r v 0 (w 0)) 1 (w 1)) 2 (w 2)) 3 (w 3)) 4 (w 4)) hg ha hb hne hr hv hw 5 (by omega) rfl]
  rw [bc_j (z := u_r (u_r (u_r (u_r (u_r (u_r v 0 (w 0)) 1 (w 1)) 2 (w 2)) 3 (w 3)) 4 (w 4)) 5 (w 5)) hg ha hb hne hr hv hw 6 (by omega) rfl]
  rw [bc_j (z := u_r (u_r (u_r (u_r (u_r (u_r (u_r v 0 (w 0)) 1 (w 1)) 2 (w 2)) 3 (w 3)) 4 (w 4)) 5 (w 5)) 6 (w 6)) hg ha hb hne hr hv hw 7 (by omega) rfl]
  rw [bc_j (z := u_r (u_r (u_r (u_r (u_r (u_r (u_r (u_r v 0 (w 0)) 1 (w 1)) 2 (w 2)) 3 (w 3)) 4 (w 4)) 5 (w 5)) 6 (w 6)) 7 (w 7)) hg ha hb hne hr hv hw 8 (by omega) rfl]
  rw [bc_j (z := u_r (u_r (u_r (u_r (u_r (u_r (u_r (u_r (u_r v 0 (w 0)) 1 (w 1)) 2 (w 2)) 3 (w 3)) 4 (w 4)) 5 (w 5)) 6 (w 6)) 7 (w 7)) 8 (w 8)) hg ha hb hne hr hv hw 9 (by omega) rfl]
  rw [V10]
  exact loop
end BC
