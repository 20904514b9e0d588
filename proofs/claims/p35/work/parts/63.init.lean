/-! A NEW STATE -/
/-- a new State's contents after i persons, and of the next one q papers -/
def z2 (i q : Nat) : AS := fun f k => if f = 0 then (if k < i + (if q = 0 then 0 else 1) then nI 15 else 0) else if 20 ≤ f ∧ f < 28 then (if k < i + (if f - 20 < q - 1 then 1 else 0) then -1 else 0) else if f = 14 then (if k = 0 then nI 100 else 0) else 0
def v0 : AS := fun f k => if f = 0 then (if k < 8 then nI 15 else 0) else if 20 ≤ f ∧ f < 28 then (if k < 8 then -1 else 0) else if f = 14 then (if k = 0 then nI 100 else 0) else if f = 11 then (if k = 0 then nI 3 else if k = 1 then nI 1 else if k = 2 then nI 4 else if k = 3 then nI 1 else 0) else 0
theorem z2_put {S : PH} {G : Nat → Nat} {b : Nat} {v w : AS} (h1 : ∀ f, f < 10 ∨ f = 11 ∨ (20 ≤ f ∧ f < 28) → ∀ k, v f k = w f k) (h2 : ∀ f, 12 ≤ f → f < 17 → v f 0 = w f 0) : put S G b v = put S G b w := put_cg (fun f hf => funext (h1 f hf)) h2
theorem wk_init2 {S0 : PH} {G0 : Nat → Nat} {a b : Nat} (hw : GW S0 G0) (ha : ob S0 G0 a 2 (1012 + 100 * b)) (hz : p_I S0 a = fun _ => 0) (hx : ∀ d, d ≠ a → ¬ (1000 + 100 * b ≤ G0 d ∧ G0 d < 1100 + 100 * b)) {Q : (Nat ⊕ Unit) → PH → Prop} (hQ : ∀ S G, GW S G → (∀ d, d ∈ p_L S0 → d ≠ a → sme S0 S d ∧ G d = G0 d) → (∀ d, d ∉ p_L S0 → G d = 0 ∨ (1000 + 100 * b ≤ G d ∧ G d < 1100 + 100 * b)) → stB S G b a → rep S a v0 → Q (.inr ()) S) : w_X2_init (some a) S0 Q := by
  have h0 : AO S0 G0 a 2 (1012 + 100 * b) (1000 + 100 * b) (1100 + 100 * b) (1020 + 100 * b) S0 G0 [] [] (fun _ => 0) False := ⟨hw, fun d hd _ => ⟨⟨hd, rfl, rfl, rfl, rfl, rfl, rfl⟩, rfl⟩, fun d hd => Or.inl (hw.2 d hd), ha, ha.1.1, fun e he => absurd he List.not_mem_nil, hx, hz, fun h => h.elim⟩
  unfold w_X2_init
  refine wdr_t ha.1 ?_
  refine h0.arr 0 6 8 (1000 + 100 * b + 0) (by omega) List.not_mem_nil (by omega) (by omega) (by simp) (fun hb => hb.elim) (fun S1 G1 h1 => ?_)
  refine h1.arr 1 6 8 (1000 + 100 * b + 1) (by omega) (by simp only [List.mem_cons, List.not_mem_nil, or_false]; omega) (by omega) (by omega) (by simp) (fun hb => hb.elim) (fun S2 G2 h2 => ?_)
  refine h2.arr 2 6 8 (1000 + 100 * b + 2) (by omega) (by simp only [List.mem_cons, List.not_mem_nil, or_false]; omega) (by omega) (by omega) (by simp) (fun hb => hb.elim) (fun S3 G3 h3 => ?_)
  refine h3.arr 3 6 8 (1000 + 100 * b + 3) (by omega) (by simp only [List.mem_cons, List.not_mem_nil, or_false]; omega) (by omega) (by omega) (by simp) (fun hb => hb.elim) (fun S4 G4 h4 => ?_)
  refine h4.arr 4 6 8 (1000 + 100 * b + 4) (by omega) (by simp only [List.mem_cons, List.not_mem_nil, or_false]; omega) (by omega) (by omega) (by simp) (fun hb => hb.elim) (fun S5 G5 h5 => ?_)
  refine h5.arr 5 6 8 (1000 + 100 * b + 5) (by omega) (by simp only [List.mem_cons, List.not_mem_nil, or_false]; omega) (by omega) (by omega) (by simp) (fun hb => hb.elim) (fun S6 G6 h6 => ?_)
  refine h6.arr 6 6 8 (1000 + 100 * b + 6) (by omega) (by simp only [List.mem_cons, List.not_mem_nil, or_false]; omega) (by omega) (by omega) (by simp) (fun hb => hb.elim) (fun S7 G7 h7 => ?_)
  refine h7.arr 7 6 8 (1000 + 100 * b + 7) (by omega) (by simp only [List.mem_cons, List.not_mem_nil, or_false]; omega) (by omega) (by omega) (by simp) (fun hb => hb.elim) (fun S8 G8 h8 => ?_)
  refine h8.arr 8 6 8 (1000 + 100 * b + 8) (by omega) (by simp only [List.mem_cons, List.not_mem_nil, or_false]; omega) (by omega) (by omega) (by simp) (fun hb => hb.elim) (fun S9 G9 h9 => ?_)
  refine h9.arr 9 6 8 (1000 + 100 * b + 9) (by omega) (by simp only [List.mem_cons, List.not_mem_nil, or_false]; omega) (by omega) (by omega) (by simp) (fun hb => hb.elim) (fun S10 G10 h10 => ?_)
  refine h10.mul (1010 + 100 * b) (by omega) (by simp only [List.mem_cons, List.not_mem_nil, or_false]; omega) (by omega) (by omega) (by omega) (fun i hi => ⟨by simp only [List.mem_cons, List.not_mem_nil, or_false]; omega, by omega, by omega⟩) (by simp) (fun S11 G11 h11 => ?_)
  refine h11.arr 11 6 4 (1011 + 100 * b) (by omega) (by simp only [List.mem_cons, List.not_mem_nil, or_false]; omega) (by omega) (by omega) (by simp) (fun _ => by omega) (fun S12 G12 h12 => ?_)
  refine h12.num 12 0 (fun S13 h13 => ?_)
  refine h13.num 13 0 (fun S14 h14 => ?_)
  refine h14.num 14 100 (fun S15 h15 => ?_)
  refine h15.num 15 0 (fun S16 h16 => ?_)
  refine h16.num 16 0 (fun S17 h17 => ?_)
  have hst : stB S17 G12 b a := by
    have m := h17.m trivial
    have F := h17.fs
    simp only [List.forall_mem_cons] at F
    obtain ⟨f11, f10, f9, f8, f7, f6, f5, f4, f3, f2, f1, f0, _⟩ := F
    refine ⟨h17.o, f10.1.1, fun f hf => ?_, f11.1.1, fun q hq => (m.2.2 q hq).1.1⟩
    rcases (show f = 0 ∨ f = 1 ∨ f = 2 ∨ f = 3 ∨ f = 4 ∨ f = 5 ∨ f = 6 ∨ f = 7 ∨ f = 8 ∨ f = 9 by omega) with rfl | rfl | rfl | rfl | rfl | rfl | rfl | rfl | rfl | rfl
    · exact f0.1.1
    · exact f1.1.1
    · exact f2.1.1
    · exact f3.1.1
    · exact f4.1.1
    · exact f5.1.1
    · exact f6.1.1
    · exact f7.1.1
    · exact f8.1.1
    · exact f9.1.1
  have hrep : rep S17 a (z2 0 0) := by
    have m := h17.m trivial
    have F := h17.fs
    simp only [List.forall_mem_cons] at F
    obtain ⟨f11, f10, f9, f8, f7, f6, f5, f4, f3, f2, f1, f0, _⟩ := F
    refine ⟨fun f hf => ?_, ?_, fun q hq => ?_, fun f h1 h2 => ?_⟩
    · have e : z2 0 0 f = fun _ => 0 := by
        funext k
        unfold z2
        by_cases h : f = 0
        · rw [if_pos h, if_neg (by simp)]
        · rw [if_neg h, if_neg (by omega), if_neg (by omega)]
      rw [e]
      rcases (show f = 0 ∨ f = 1 ∨ f = 2 ∨ f = 3 ∨ f = 4 ∨ f = 5 ∨ f = 6 ∨ f = 7 ∨ f = 8 ∨ f = 9 by omega) with rfl | rfl | rfl | rfl | rfl | rfl | rfl | rfl | rfl | rfl
      · exact f0.1.2
      · exact f1.1.2
      · exact f2.1.2
      · exact f3.1.2
      · exact f4.1.2
      · exact f5.1.2
      · exact f6.1.2
      · exact f7.1.2
      · exact f8.1.2
      · exact f9.1.2
    · exact f11.1.2
    · rw [(m.2.2 q hq).1.2]
      funext k
      unfold z2
      rw [if_neg (by omega), if_pos (by omega), if_neg (by simp)]
    · rw [h17.i]
      rcases (show f = 12 ∨ f = 13 ∨ f = 14 ∨ f = 15 ∨ f = 16 by omega) with rfl | rfl | rfl | rfl | rfl <;> rfl
  have hT : ∀ d, d ∉ p_L S0 → G12 d = 0 ∨ (1000 + 100 * b ≤ G12 d ∧ G12 d < 1100 + 100 * b) := by
    intro d hd
    rcases h17.n d hd with k | k
    · exact Or.inl k
    · simp only [List.mem_cons, List.not_mem_nil, or_false] at k
      omega
  rw [← put_self h17.w.1 hst hrep]
  have hf := h17.f
  have hw17 := h17.w
  clear h0 h1 h2 h3 h4 h5 h6 h7 h8 h9 h10 h11 h12 h13 h14 h15 h16 h17
  generalize G12 = G at *
  generalize S17 = S at *
  have hg := hw17.1
  have h := hst
  have hm1 : (15 : Int32) = nI 15 := rfl
  refine wlp_go (fun i t => t = (nI i, put S G b (z2 i 0))) 8 (fun K t ht => ?_) (fun i hi K hK t ht => ?_) _ rfl
  · subst ht
    have o11 : p_I (put S G b (z2 8 0)) (rf S a 11) = z2 8 0 11 := g_f11 h
    simp (disch := omega) only [wst_X2_init_131, z_0, z_1, z_2, z_3, z_4, z_5, z_6, z_7, z_8, z_9, z_10, z_12, z_13, z_15, z_17, z_20, z_25, z_31, z_33, z_41, z_49, z_57, z_60, z_72, z_100, z_161, z_255, z_256, z_999, z_9999, of_n, nI_add, pk_mul, n_le, n_lt, n_eq, n_cl, ck_n, ck_d, ck_tr, le_t, bd_t, ir_t, bt_r, bt_l, b_t, b_f, b_lt, b_lf, b_ef, z_m1, b_i0, b_i1, z_not, z_ps, f_mb, f_rf, ↓reduceIte, Nat.zero_add, Nat.add_zero, Nat.one_mul, Nat.mul_one, Nat.zero_mul, Nat.mul_zero, not_true_eq_false, not_false_eq_true, wdr_put, wle_t, wck_d, wck_tr, wck_n, wbd_e, wbt_re, wbt_le, h.Wo, h.Wd 0 (by decide), h.Wd 1 (by decide), h.Wd 2 (by decide), h.Wd 3 (by decide), h.Wd 4 (by decide), h.Wd 5 (by decide), h.Wd 6 (by decide), h.Wd 7 (by decide), h.Wd 8 (by decide), h.Wd 9 (by decide), h.W11, h.Ws, h.Ww, h.n 0 (by decide), h.n 1 (by decide), h.n 2 (by decide), h.n 3 (by decide), h.n 4 (by decide), h.n 5 (by decide), h.n 6 (by decide), h.n 7 (by decide), h.n 8 (by decide), h.n 9 (by decide), h.n11, h.ns, h.nw, wdr_put, N_put, R_put, rf_put, a8_put, g_f h 0 (by decide), s_f hg h 0 (by decide), g_f h 1 (by decide), s_f hg h 1 (by decide), g_f h 2 (by decide), s_f hg h 2 (by decide), g_f h 3 (by decide), s_f hg h 3 (by decide), g_f h 4 (by decide), s_f hg h 4 (by decide), g_f h 5 (by decide), s_f hg h 5 (by decide), g_f h 6 (by decide), s_f hg h 6 (by decide), g_f h 7 (by decide), s_f hg h 7 (by decide), g_f h 8 (by decide), s_f hg h 8 (by decide), g_f h 9 (by decide), s_f hg h 9 (by decide), g_f11 h, s_f11 hg h, g_w h, s_w hg h, g_i h 12 (by decide) (by decide), s_i hg h 12 (by decide) (by decide), g_i h 13 (by decide) (by decide), s_i hg h 13 (by decide) (by decide), g_i h 14 (by decide) (by decide), s_i hg h 14 (by decide) (by decide), g_i h 15 (by decide) (by decide), s_i hg h 15 (by decide) (by decide), g_i h 16 (by decide) (by decide), s_i hg h 16 (by decide) (by decide), o11, sW_11 hg h]
    have e : put S G b (u_r (z2 8 0) 11 (va_cpy (fun j => [nI 3, nI 1, nI 4, nI 1].getD j (nI 0)) (z2 8 0 11) 0 0 4)) = put S G b v0 := by
      refine put_cg (fun f hf => ?_) (fun f h1 h2 => ?_)
      · by_cases h11 : f = 11
        · rw [h11, ur_s]
          funext k
          unfold va_cpy v0 z2
          rcases (show k = 0 ∨ k = 1 ∨ k = 2 ∨ k = 3 ∨ 4 ≤ k by omega) with rfl | rfl | rfl | rfl | hk
          · rfl
          · rfl
          · rfl
          · rfl
          · simp (disch := omega) [show ¬ k < 4 by omega, show k ≠ 0 by omega, show k ≠ 1 by omega, show k ≠ 2 by omega, show k ≠ 3 by omega]
        · rw [ur_ne h11]
          funext k
          unfold v0 z2
          by_cases h0 : f = 0
          · rw [if_pos h0, if_pos h0, if_pos rfl]
          · rw [if_neg h0, if_neg h0]
            by_cases h20 : 20 ≤ f ∧ f < 28
            · rw [if_pos h20, if_pos h20, if_neg (show ¬ f - 20 < 0 - 1 by omega)]
            · rw [if_neg h20, if_neg h20, if_neg (show ¬ f = 14 by omega), if_neg (show ¬ f = 14 by omega), if_neg h11]
      · rcases (show f = 12 ∨ f = 13 ∨ f = 14 ∨ f = 15 ∨ f = 16 by omega) with rfl | rfl | rfl | rfl | rfl <;> rfl
    rw [e]
    refine hQ _ G ⟨hw17.1, hw17.2⟩ (fun d hd hda => ⟨sme_tr (hf d hd hda).1 ⟨(hf d hd hda).1.1, rfl, rfl, ?_, rfl, rfl, rfl⟩, (hf d hd hda).2⟩) hT hst (rep_put h)
    funext k
    show pv (p_I S) G b v0 d k = p_I S d k
    have h1 := hx d hda
    have h2 := (hf d hd hda).2
    unfold pv
    rw [if_neg (by omega), if_neg (by omega)]
  · subst ht
    have i1 : put S G b (u_2 (z2 i 0) 0 i (nI 15)) = put S G b (z2 i 1) := by
      refine z2_put (fun f hf k => ?_) (fun f h1 h2 => ?_)
      · unfold u_2 z2
        by_cases h0 : f = 0
        · subst h0
          by_cases hk : k = i
          · subst hk
            rw [if_pos ⟨rfl, rfl⟩, if_pos rfl]
            show _ = (if k < k + 1 then _ else _)
            rw [if_pos (by omega)]
          · rw [if_neg (fun z => hk z.2), if_pos rfl, if_pos rfl]
            by_cases hki : k < i
            · show (if k < i then _ else _) = (if k < i + 1 then _ else _)
              rw [if_pos hki, if_pos (by omega)]
            · show (if k < i then _ else _) = (if k < i + 1 then _ else _)
              rw [if_neg hki, if_neg (by omega)]
        · rw [if_neg (fun z => h0 z.1), if_neg h0, if_neg h0]
      · rcases (show f = 12 ∨ f = 13 ∨ f = 14 ∨ f = 15 ∨ f = 16 by omega) with rfl | rfl | rfl | rfl | rfl <;> rfl
    simp (disch := omega) only [wst_X2_init_131, z_0, z_1, z_2, z_3, z_4, z_5, z_6, z_7, z_8, z_9, z_10, z_12, z_13, z_15, z_17, z_20, z_25, z_31, z_33, z_41, z_49, z_57, z_60, z_72, z_100, z_161, z_255, z_256, z_999, z_9999, of_n, nI_add, pk_mul, n_le, n_lt, n_eq, n_cl, ck_n, ck_d, ck_tr, le_t, bd_t, ir_t, bt_r, bt_l, b_t, b_f, b_lt, b_lf, b_ef, z_m1, b_i0, b_i1, z_not, z_ps, f_mb, f_rf, ↓reduceIte, Nat.zero_add, Nat.add_zero, Nat.one_mul, Nat.mul_one, Nat.zero_mul, Nat.mul_zero, not_true_eq_false, not_false_eq_true, wdr_put, wle_t, wck_d, wck_tr, wck_n, wbd_e, wbt_re, wbt_le, h.Wo, h.Wd 0 (by decide), h.Wd 1 (by decide), h.Wd 2 (by decide), h.Wd 3 (by decide), h.Wd 4 (by decide), h.Wd 5 (by decide), h.Wd 6 (by decide), h.Wd 7 (by decide), h.Wd 8 (by decide), h.Wd 9 (by decide), h.W11, h.Ws, h.Ww, h.n 0 (by decide), h.n 1 (by decide), h.n 2 (by decide), h.n 3 (by decide), h.n 4 (by decide), h.n 5 (by decide), h.n 6 (by decide), h.n 7 (by decide), h.n 8 (by decide), h.n 9 (by decide), h.n11, h.ns, h.nw, wdr_put, N_put, R_put, rf_put, a8_put, g_f h 0 (by decide), s_f hg h 0 (by decide), g_f h 1 (by decide), s_f hg h 1 (by decide), g_f h 2 (by decide), s_f hg h 2 (by decide), g_f h 3 (by decide), s_f hg h 3 (by decide), g_f h 4 (by decide), s_f hg h 4 (by decide), g_f h 5 (by decide), s_f hg h 5 (by decide), g_f h 6 (by decide), s_f hg h 6 (by decide), g_f h 7 (by decide), s_f hg h 7 (by decide), g_f h 8 (by decide), s_f hg h 8 (by decide), g_f h 9 (by decide), s_f hg h 9 (by decide), g_f11 h, s_f11 hg h, g_w h, s_w hg h, g_i h 12 (by decide) (by decide), s_i hg h 12 (by decide) (by decide), g_i h 13 (by decide) (by decide), s_i hg h 13 (by decide) (by decide), g_i h 14 (by decide) (by decide), s_i hg h 14 (by decide) (by decide), g_i h 15 (by decide) (by decide), s_i hg h 15 (by decide) (by decide), g_i h 16 (by decide) (by decide), s_i hg h 16 (by decide) (by decide), i1]
    refine wlp_go (fun q t => t = (nI i, nI q, put S G b (z2 i (q + 1)))) 8 (fun K2 t ht => ?_) (fun q hq K2 hK2 t ht => ?_) _ rfl
    · subst ht
      simp (disch := omega) only [wst_X2_init_147, z_0, z_1, z_2, z_3, z_4, z_5, z_6, z_7, z_8, z_9, z_10, z_12, z_13, z_15, z_17, z_20, z_25, z_31, z_33, z_41, z_49, z_57, z_60, z_72, z_100, z_161, z_255, z_256, z_999, z_9999, of_n, nI_add, pk_mul, n_le, n_lt, n_eq, n_cl, ck_n, ck_d, ck_tr, le_t, bd_t, ir_t, bt_r, bt_l, b_t, b_f, b_lt, b_lf, b_ef, z_m1, b_i0, b_i1, z_not, z_ps, f_mb, f_rf, ↓reduceIte, Nat.zero_add, Nat.add_zero, Nat.one_mul, Nat.mul_one, Nat.zero_mul, Nat.mul_zero, not_true_eq_false, not_false_eq_true, wdr_put, wle_t, wck_d, wck_tr, wck_n, wbd_e, wbt_re, wbt_le, h.Wo, h.Wd 0 (by decide), h.Wd 1 (by decide), h.Wd 2 (by decide), h.Wd 3 (by decide), h.Wd 4 (by decide), h.Wd 5 (by decide), h.Wd 6 (by decide), h.Wd 7 (by decide), h.Wd 8 (by decide), h.Wd 9 (by decide), h.W11, h.Ws, h.Ww, h.n 0 (by decide), h.n 1 (by decide), h.n 2 (by decide), h.n 3 (by decide), h.n 4 (by decide), h.n 5 (by decide), h.n 6 (by decide), h.n 7 (by decide), h.n 8 (by decide), h.n 9 (by decide), h.n11, h.ns, h.nw, wdr_put, N_put, R_put, rf_put, a8_put, g_f h 0 (by decide), s_f hg h 0 (by decide), g_f h 1 (by decide), s_f hg h 1 (by decide), g_f h 2 (by decide), s_f hg h 2 (by decide), g_f h 3 (by decide), s_f hg h 3 (by decide), g_f h 4 (by decide), s_f hg h 4 (by decide), g_f h 5 (by decide), s_f hg h 5 (by decide), g_f h 6 (by decide), s_f hg h 6 (by decide), g_f h 7 (by decide), s_f hg h 7 (by decide), g_f h 8 (by decide), s_f hg h 8 (by decide), g_f h 9 (by decide), s_f hg h 9 (by decide), g_f11 h, s_f11 hg h, g_w h, s_w hg h, g_i h 12 (by decide) (by decide), s_i hg h 12 (by decide) (by decide), g_i h 13 (by decide) (by decide), s_i hg h 13 (by decide) (by decide), g_i h 14 (by decide) (by decide), s_i hg h 14 (by decide) (by decide), g_i h 15 (by decide) (by decide), s_i hg h 15 (by decide) (by decide), g_i h 16 (by decide) (by decide), s_i hg h 16 (by decide) (by decide)]
      refine hK _ (congrArg (fun P => (nI (i + 1), P)) (z2_put (fun f hf k => ?_) (fun f h1 h2 => ?_)))
      · unfold z2
        by_cases h0 : f = 0
        · rw [if_pos h0, if_pos h0, if_neg (show ¬ 8 + 1 = 0 by omega), if_pos rfl]
        · rw [if_neg h0, if_neg h0]
          by_cases h20 : 20 ≤ f ∧ f < 28
          · rw [if_pos h20, if_pos h20, if_pos (show f - 20 < 8 + 1 - 1 by omega), if_neg (show ¬ f - 20 < 0 - 1 by omega)]
          · rw [if_neg h20, if_neg h20]
      · rcases (show f = 12 ∨ f = 13 ∨ f = 14 ∨ f = 15 ∨ f = 16 by omega) with rfl | rfl | rfl | rfl | rfl <;> rfl
    · subst ht
      simp (disch := omega) only [wst_X2_init_147, z_0, z_1, z_2, z_3, z_4, z_5, z_6, z_7, z_8, z_9, z_10, z_12, z_13, z_15, z_17, z_20, z_25, z_31, z_33, z_41, z_49, z_57, z_60, z_72, z_100, z_161, z_255, z_256, z_999, z_9999, of_n, nI_add, pk_mul, n_le, n_lt, n_eq, n_cl, ck_n, ck_d, ck_tr, le_t, bd_t, ir_t, bt_r, bt_l, b_t, b_f, b_lt, b_lf, b_ef, z_m1, b_i0, b_i1, z_not, z_ps, f_mb, f_rf, ↓reduceIte, Nat.zero_add, Nat.add_zero, Nat.one_mul, Nat.mul_one, Nat.zero_mul, Nat.mul_zero, not_true_eq_false, not_false_eq_true, wdr_put, wle_t, wck_d, wck_tr, wck_n, wbd_e, wbt_re, wbt_le, h.Wo, h.Wd 0 (by decide), h.Wd 1 (by decide), h.Wd 2 (by decide), h.Wd 3 (by decide), h.Wd 4 (by decide), h.Wd 5 (by decide), h.Wd 6 (by decide), h.Wd 7 (by decide), h.Wd 8 (by decide), h.Wd 9 (by decide), h.W11, h.Ws, h.Ww, h.n 0 (by decide), h.n 1 (by decide), h.n 2 (by decide), h.n 3 (by decide), h.n 4 (by decide), h.n 5 (by decide), h.n 6 (by decide), h.n 7 (by decide), h.n 8 (by decide), h.n 9 (by decide), h.n11, h.ns, h.nw, wdr_put, N_put, R_put, rf_put, a8_put, g_f h 0 (by decide), s_f hg h 0 (by decide), g_f h 1 (by decide), s_f hg h 1 (by decide), g_f h 2 (by decide), s_f hg h 2 (by decide), g_f h 3 (by decide), s_f hg h 3 (by decide), g_f h 4 (by decide), s_f hg h 4 (by decide), g_f h 5 (by decide), s_f hg h 5 (by decide), g_f h 6 (by decide), s_f hg h 6 (by decide), g_f h 7 (by decide), s_f hg h 7 (by decide), g_f h 8 (by decide), s_f hg h 8 (by decide), g_f h 9 (by decide), s_f hg h 9 (by decide), g_f11 h, s_f11 hg h, g_w h, s_w hg h, g_i h 12 (by decide) (by decide), s_i hg h 12 (by decide) (by decide), g_i h 13 (by decide) (by decide), s_i hg h 13 (by decide) (by decide), g_i h 14 (by decide) (by decide), s_i hg h 14 (by decide) (by decide), g_i h 15 (by decide) (by decide), s_i hg h 15 (by decide) (by decide), g_i h 16 (by decide) (by decide), s_i hg h 16 (by decide) (by decide)]
      refine hK2 _ (congrArg (fun P => (nI i, nI (q + 1), P)) (z2_put (fun f hf k => ?_) (fun f h1 h2 => ?_)))
      · unfold u_2 z2
        by_cases h0 : f = 0
        · rw [if_neg (by omega), if_pos h0, if_pos h0, if_neg (show ¬ q + 1 = 0 by omega), if_neg (show ¬ q + 1 + 1 = 0 by omega)]
        · rw [if_neg h0, if_neg h0]
          by_cases h20 : 20 ≤ f ∧ f < 28
          · rw [if_pos h20, if_pos h20]
            by_cases hq2 : f = 20 + q
            · subst hq2
              by_cases hk : k = i
              · subst hk
                rw [if_pos ⟨rfl, rfl⟩, if_pos (show 20 + q - 20 < q + 1 + 1 - 1 by omega), if_pos (by omega)]
                rfl
              · rw [if_neg (fun z => hk z.2), if_pos (show 20 + q - 20 < q + 1 + 1 - 1 by omega), if_neg (show ¬ 20 + q - 20 < q + 1 - 1 by omega)]
                by_cases hki : k < i
                · rw [if_pos (by omega), if_pos (by omega)]
                · rw [if_neg (by omega), if_neg (by omega)]
            · rw [if_neg (fun z => hq2 z.1)]
              by_cases hlt : f - 20 < q
              · rw [if_pos (show f - 20 < q + 1 - 1 by omega), if_pos (show f - 20 < q + 1 + 1 - 1 by omega)]
              · rw [if_neg (show ¬ f - 20 < q + 1 - 1 by omega), if_neg (show ¬ f - 20 < q + 1 + 1 - 1 by omega)]
          · rw [if_neg h20, if_neg h20, if_neg (by omega)]
      · have g1 : ¬ (f = 20 + q ∧ (0 : Nat) = i) := by omega
        unfold u_2
        rw [if_neg g1]
        rcases (show f = 12 ∨ f = 13 ∨ f = 14 ∨ f = 15 ∨ f = 16 by omega) with rfl | rfl | rfl | rfl | rfl <;> rfl
