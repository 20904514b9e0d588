/-! THE FACE: the orders -/
section FB
variable {S : PH} {G : Nat → Nat} {x nw : Nat} {v : AS} {hs : List AS} {nx : Nat} {sl : Nat → Option AS} {tn : Nat} {tx : Nat → Int32}
def f_bring (v : AS) (i : Int32) : (Nat ⊕ Int32) × Option AS := if a_in i (nI 1) (nI 999) then (if v 15 0 + i ≤ nI 9999 then (.inr (v 14 0 + i), some (u_2 (u_2 v 15 0 (v 15 0 + i)) 14 0 (v 14 0 + i))) else (.inl 1, none)) else (.inl 0, none)
def sLo (i : Nat) : Int32 := List.getD ([1, 0, 0, 0] : List Int32) i 0
def sHi (i : Nat) : Int32 := List.getD ([4, 2, 9, 3] : List Int32) i 0
def f_set (v : AS) (i j : Int32) : (Nat ⊕ Int32) × Option AS := if a_in i (nI 0) (nI 3) then (if a_in j (sLo i.toNatClampNeg) (sHi i.toNatClampNeg) then (.inr (v 11 i.toNatClampNeg), some (u_2 v 11 i.toNatClampNeg j)) else (.inl 0, none)) else (.inl 2, none)
theorem aw_set11 (hI : IV v) {p : Nat} (hp : p < 4) (w : Int32) : AW (u_2 v 11 p w) := by
  have ha := hI.aw
  refine ⟨fun f k hf hk => ?_, fun k hk => ?_⟩
  · rw [u_ne (by omega)]
    exact ha.1 f k hf hk
  · rw [u_k (by omega)]
    exact ha.2 k hk
theorem k_set (h : RelC S G x nw v hs nx sl tn tx) (hI : IV v) (i j : Int32) {Q : (Nat ⊕ Int32) → PH → Prop} (hQ : ∀ S' G', RelO S' G' x nw v hs nx sl tn tx (f_set v i j).2 → fc S G S' G' → Q (f_set v i j).1 S') : w_X4_set (some x) i j S Q := by
  unfold w_X4_set
  rw [k_reqS]
  unfold f_set at hQ
  by_cases h1 : a_in i (nI 0) (nI 3) = true
  · rw [if_pos h1] at hQ ⊢
    rw [wbt_re]
    obtain ⟨p, hp, rfl⟩ := in_n (by omega) h1
    rw [n_cl (by omega)] at hQ
    rw [wck_n (by omega) (by omega), wck_n (by omega) (by omega), n_cl (by omega)]
    have r := rng (i := j) (l := sLo p) (u := sHi p) (A := wj_X4_set_22 (some x) (nI p) j Q S) (B := wdr S 4 (some x) fun a14 => wdr S 0 (p_R S a14 1) fun a17 => w_X0_save (p_R S a14 1) (p_R S a14 0) S (wq (fun v20 S21 => wdr S21 4 (some x) fun a24 => wdr S21 2 (p_R S21 a24 0) fun a27 => wdr S21 6 (p_R S21 a27 11) fun a30 => wck (ix (nI p) (p_N S21 a30)) <| wle (p_I S21 a30 p) fun x34 => wck (ix (nI p) (p_N S21 a30)) <| wle (s_I S21 a30 p j) fun S37 => Q (.inr x34) S37) (fun _ _ => False)))
    refine Eq.mpr r ?_
    by_cases h2 : a_in j (sLo p) (sHi p) = true
    · rw [if_pos h2] at hQ ⊢
      rw [h.rc.Wx]
      rw [h.rc.r1, h.rc.Whi, ← h.rc.r1]
      refine k_save h (fun S' G' k1 k2 => ?_)
      rw [wq_re]
      have hh : RC S' G' x nw := k1.rc
      have hg := k1.gi
      clear h
      have h := hh
      simp (disch := omega) only [z_0, z_1, z_2, z_3, z_4, z_5, z_6, z_7, z_8, z_9, z_10, z_12, z_13, z_15, z_17, z_20, z_25, z_31, z_33, z_41, z_49, z_57, z_60, z_72, z_100, z_161, z_255, z_256, z_999, z_9999, of_n, nI_add, pk_mul, n_le, n_lt, n_eq, n_cl, ck_n, ck_d, ck_tr, le_t, bd_t, ir_t, bt_r, bt_l, b_t, b_f, b_lt, b_lf, b_ef, z_m1, b_i0, b_i1, z_not, z_ps, f_mb, f_rf, ↓reduceIte, Nat.zero_add, Nat.add_zero, Nat.one_mul, Nat.mul_one, Nat.zero_mul, Nat.mul_zero, not_true_eq_false, not_false_eq_true, h.Wx, h.Wnow, h.r1, h.Whi, h.hi2, h.Wring, h.nring, h.Wsl, h.nsl, h.Wtx, h.Wcd, wdr_put, wle_t, wck_d, wck_tr, wck_n, wbd_e, wbt_re, wbt_le, h.st.Wd 0 (by decide), h.st.Wd 1 (by decide), h.st.Wd 2 (by decide), h.st.Wd 3 (by decide), h.st.Wd 4 (by decide), h.st.Wd 5 (by decide), h.st.Wd 6 (by decide), h.st.Wd 7 (by decide), h.st.Wd 8 (by decide), h.st.Wd 9 (by decide), h.st.W11, h.st.Ws, h.st.Ww, h.st.n 0 (by decide), h.st.n 1 (by decide), h.st.n 2 (by decide), h.st.n 3 (by decide), h.st.n 4 (by decide), h.st.n 5 (by decide), h.st.n 6 (by decide), h.st.n 7 (by decide), h.st.n 8 (by decide), h.st.n 9 (by decide), h.st.n11, h.st.ns, h.st.nw, wdr_put, h.r0, N_put, R_put, rf_put, a8_put, g_f h.st 0 (by decide), s_f hg h.st 0 (by decide), g_f h.st 1 (by decide), s_f hg h.st 1 (by decide), g_f h.st 2 (by decide), s_f hg h.st 2 (by decide), g_f h.st 3 (by decide), s_f hg h.st 3 (by decide), g_f h.st 4 (by decide), s_f hg h.st 4 (by decide), g_f h.st 5 (by decide), s_f hg h.st 5 (by decide), g_f h.st 6 (by decide), s_f hg h.st 6 (by decide), g_f h.st 7 (by decide), s_f hg h.st 7 (by decide), g_f h.st 8 (by decide), s_f hg h.st 8 (by decide), g_f h.st 9 (by decide), s_f hg h.st 9 (by decide), g_f11 h.st, s_f11 hg h.st, g_w h.st, s_w hg h.st, g_i h.st 12 (by decide) (by decide), s_i hg h.st 12 (by decide) (by decide), g_i h.st 13 (by decide) (by decide), s_i hg h.st 13 (by decide) (by decide), g_i h.st 14 (by decide) (by decide), s_i hg h.st 14 (by decide) (by decide), g_i h.st 15 (by decide) (by decide), s_i hg h.st 15 (by decide) (by decide), g_i h.st 16 (by decide) (by decide), s_i hg h.st 16 (by decide) (by decide), R_put]
      have kk := k_new (G := G) (w := u_2 v 11 p j) k1 k2 (aw_set11 hI (by omega) _)
      exact hQ _ G' kk.1 kk.2
    · rw [if_neg h2] at hQ ⊢
      exact hQ S G h fc_r
  · rw [if_neg h1] at hQ ⊢
    rw [wbt_le]
    exact hQ S G h fc_r
def f_week (v : AS) : (Nat ⊕ Int32) × Option AS := if nI 999 ≤ v 13 0 then (.inl 1, none) else (.inr (a_week v).1, some (a_week v).2)
theorem k_week (h : RelC S G x nw v hs nx sl tn tx) (hI : IV v) {Q : (Nat ⊕ Int32) → PH → Prop} (hQ : ∀ S' G', RelO S' G' x nw v hs nx sl tn tx (f_week v).2 → fc S G S' G' → Q (f_week v).1 S') : w_X4_week (some x) S Q := by
  unfold w_X4_week
  unfold f_week at hQ
  have e : m_X4_canWeekPass (some x) S = some (if nI 999 ≤ v 13 0 then nI 0 else nI 1, S) := by
    unfold m_X4_canWeekPass
    rw [h.rc.x4, h.rc.r0, h.rc.now, h.rv.i 13 (by decide) (by decide)]
    rw [show (999 : Int32) = nI 999 from rfl]
    split <;> rfl
  rw [h.rc.Wx, e, wbd_e]
  by_cases h1 : nI 999 ≤ v 13 0
  · rw [if_pos h1] at hQ
    rw [if_pos h1, if_pos (show nI 0 = 0 from rfl)]
    exact hQ S G h fc_r
  · rw [if_neg h1] at hQ
    rw [if_neg h1, if_neg (show ¬ nI 1 = 0 by decide), h.rc.Wx]
    rw [h.rc.r1, h.rc.Whi, ← h.rc.r1]
    refine k_save h (fun S' G' k1 k2 => ?_)
    rw [wq_re]
    have hh : RC S' G' x nw := k1.rc
    have hg := k1.gi
    clear h
    have h := hh
    rw [wdr_put, h.Wx, p_passWeek hg h, wbd_e]
    have kk := k_new (G := G) (w := (a_week v).2) k1 k2 (iv_week hI).aw
    exact hQ _ G' kk.1 kk.2
def f_take (v : AS) (i j : Int32) : (Nat ⊕ Int32) × Option AS := if a_in i (nI 0) (nI 7) then (if a_isP v j then (.inr (a_take v i.toNatClampNeg j.toNatClampNeg).1, some (a_take v i.toNatClampNeg j.toNatClampNeg).2) else (.inl 2, none)) else (.inl 2, none)
theorem k_take (h : RelC S G x nw v hs nx sl tn tx) (hI : IV v) (i j : Int32) {Q : (Nat ⊕ Int32) → PH → Prop} (hQ : ∀ S' G', RelO S' G' x nw v hs nx sl tn tx (f_take v i j).2 → fc S G S' G' → Q (f_take v i j).1 S') : w_X4_take (some x) i j S Q := by
  unfold w_X4_take
  rw [k_req]
  unfold f_take at hQ
  by_cases h1 : a_in i (nI 0) (nI 7) = true
  · rw [if_pos h1] at hQ ⊢
    rw [wbt_re, h.rc.Wx, k_reqP h.rc h.rv]
    by_cases h2 : a_isP v j = true
    · rw [if_pos h2] at hQ ⊢
      obtain ⟨p, hp, rfl⟩ := in_n (by omega) h1
      obtain ⟨q, hq, rfl⟩ := isP_n hI h2
      have h8 := hI.in_.2
      rw [n_cl (by omega), n_cl (by omega)] at hQ
      rw [wbt_re, h.rc.Wx]
      rw [h.rc.r1, h.rc.Whi, ← h.rc.r1]
      refine k_save h (fun S' G' k1 k2 => ?_)
      rw [wq_re]
      have hh : RC S' G' x nw := k1.rc
      have hg := k1.gi
      clear h
      have h := hh
      rw [wdr_put, h.Wx, p_take hg h (by omega) (by omega) hI.s1.1 hI.s1.2, wbd_e]
      have kk := k_new (G := G) (w := (a_take v p q).2) k1 k2 (iv_take hI hq (by omega)).aw
      exact hQ _ G' kk.1 kk.2
    · rw [if_neg h2] at hQ ⊢
      rw [wbt_le]
      exact hQ S G h fc_r
  · rw [if_neg h1] at hQ ⊢
    rw [wbt_le]
    exact hQ S G h fc_r
theorem isS_n9 {s : Int32} (h : isS s = true) : ∃ k, k ≤ 9 ∧ s = nI k := in_n (by omega) h
def f_write (v : AS) (i j s : Int32) : (Nat ⊕ Int32) × Option AS := if a_in i (nI 0) (nI 7) then (if a_isP v j then (if isS s then (if a_cw v i.toNatClampNeg j.toNatClampNeg then (.inr (a_bc (a_wri (a_wrv v i.toNatClampNeg j.toNatClampNeg s (20 + j.toNatClampNeg)))), some (a_wrv v i.toNatClampNeg j.toNatClampNeg s)) else (.inl 1, none)) else (.inl 0, none)) else (.inl 2, none)) else (.inl 2, none)
theorem k_write (h : RelC S G x nw v hs nx sl tn tx) (hI : IV v) (i j s : Int32) {Q : (Nat ⊕ Int32) → PH → Prop} (hQ : ∀ S' G', RelO S' G' x nw v hs nx sl tn tx (f_write v i j s).2 → fc S G S' G' → Q (f_write v i j s).1 S') : w_X4_write (some x) i j s S Q := by
  unfold w_X4_write
  rw [k_req]
  unfold f_write at hQ
  by_cases h1 : a_in i (nI 0) (nI 7) = true
  · rw [if_pos h1] at hQ ⊢
    rw [wbt_re, h.rc.Wx, k_reqP h.rc h.rv]
    by_cases h2 : a_isP v j = true
    · rw [if_pos h2] at hQ ⊢
      obtain ⟨p, hp, rfl⟩ := in_n (by omega) h1
      obtain ⟨q, hq, rfl⟩ := isP_n hI h2
      have h8 := hI.in_.2
      rw [n_cl (by omega), n_cl (by omega)] at hQ
      rw [wbt_re, p_isScore, wbd_e]
      by_cases h3 : isS s = true
      · rw [if_pos h3] at hQ ⊢
        rw [if_neg (show ¬ nI 1 = 0 by decide), h.rc.Wx, p_canWrite h.rc h.rv (by omega) (by omega), wbd_e]
        by_cases h4 : a_cw v p q = true
        · rw [if_pos h4] at hQ ⊢
          rw [if_neg (show ¬ nI 1 = 0 by decide), h.rc.Wx]
          rw [h.rc.r1, h.rc.Whi, ← h.rc.r1]
          refine k_save h (fun S' G' k1 k2 => ?_)
          rw [wq_re]
          have hh : RC S' G' x nw := k1.rc
          have hg := k1.gi
          clear h
          have h := hh
          obtain ⟨k, hk, rfl⟩ := isS_n9 h3
          rw [wdr_put, h.Wx, p_write hg h (by omega) (by omega), wbd_e]
          have kk := k_new (G := G) (w := a_wrv v p q (nI k)) k1 k2 (iv_write hI hq (by omega) hk).aw
          exact hQ _ G' kk.1 kk.2
        · rw [if_neg h4] at hQ ⊢
          rw [if_pos (show nI 0 = 0 from rfl)]
          exact hQ S G h fc_r
      · rw [if_neg h3] at hQ ⊢
        rw [if_pos (show nI 0 = 0 from rfl)]
        exact hQ S G h fc_r
    · rw [if_neg h2] at hQ ⊢
      rw [wbt_le]
      exact hQ S G h fc_r
  · rw [if_neg h1] at hQ ⊢
    rw [wbt_le]
    exact hQ S G h fc_r
def f_drop (v : AS) (i j : Int32) : (Nat ⊕ Int32) × Option AS := if a_in i (nI 0) (nI 7) then (if a_isP v j then (if a_cx v i.toNatClampNeg j.toNatClampNeg then (.inr (a_tok (a_drop v i.toNatClampNeg j.toNatClampNeg) i.toNatClampNeg), some (a_drop v i.toNatClampNeg j.toNatClampNeg)) else (.inl 1, none)) else (.inl 2, none)) else (.inl 2, none)
theorem k_drop (h : RelC S G x nw v hs nx sl tn tx) (hI : IV v) (i j : Int32) {Q : (Nat ⊕ Int32) → PH → Prop} (hQ : ∀ S' G', RelO S' G' x nw v hs nx sl tn tx (f_drop v i j).2 → fc S G S' G' → Q (f_drop v i j).1 S') : w_X4_drop (some x) i j S Q := by
  unfold w_X4_drop
  rw [k_req]
  unfold f_drop at hQ
  by_cases h1 : a_in i (nI 0) (nI 7) = true
  · rw [if_pos h1] at hQ ⊢
    rw [wbt_re, h.rc.Wx, k_reqP h.rc h.rv]
    by_cases h2 : a_isP v j = true
    · rw [if_pos h2] at hQ ⊢
      obtain ⟨p, hp, rfl⟩ := in_n (by omega) h1
      obtain ⟨q, hq, rfl⟩ := isP_n hI h2
      have h8 := hI.in_.2
      rw [n_cl (by omega), n_cl (by omega)] at hQ
      rw [wbt_re, h.rc.Wx, p_canDrop h.rc h.rv (by omega) (by omega), wbd_e]
      by_cases h4 : a_cx v p q = true
      · rw [if_pos h4] at hQ ⊢
        rw [if_neg (show ¬ nI 1 = 0 by decide), h.rc.Wx]
        rw [h.rc.r1, h.rc.Whi, ← h.rc.r1]
        refine k_save h (fun S' G' k1 k2 => ?_)
        rw [wq_re]
        have hh : RC S' G' x nw := k1.rc
        have hg := k1.gi
        clear h
        have h := hh
        rw [wdr_put, h.Wx, p_drop hg h (by omega) (by omega), wbd_e]
        have kk := k_new (G := G) (w := a_drop v p q) k1 k2 (iv_drop hI hq (by omega) (of_decide_eq_true h4)).aw
        exact hQ _ G' kk.1 kk.2
      · rw [if_neg h4] at hQ ⊢
        rw [if_pos (show nI 0 = 0 from rfl)]
        exact hQ S G h fc_r
    · rw [if_neg h2] at hQ ⊢
      rw [wbt_le]
      exact hQ S G h fc_r
  · rw [if_neg h1] at hQ ⊢
    rw [wbt_le]
    exact hQ S G h fc_r
def f_discuss (v : AS) (j : Int32) : (Nat ⊕ Int32) × Option AS := if a_isP v j then (.inr (a_disc v j.toNatClampNeg).1, some (a_disc v j.toNatClampNeg).2) else (.inl 2, none)
theorem k_discuss (h : RelC S G x nw v hs nx sl tn tx) (hI : IV v) (j : Int32) {Q : (Nat ⊕ Int32) → PH → Prop} (hQ : ∀ S' G', RelO S' G' x nw v hs nx sl tn tx (f_discuss v j).2 → fc S G S' G' → Q (f_discuss v j).1 S') : w_X4_discuss (some x) j S Q := by
  unfold w_X4_discuss
  unfold f_discuss at hQ
  rw [h.rc.Wx, k_reqP h.rc h.rv]
  by_cases h2 : a_isP v j = true
  · rw [if_pos h2] at hQ ⊢
    obtain ⟨q, hq, rfl⟩ := isP_n hI h2
    have h8 := hI.in_.2
    rw [n_cl (by omega)] at hQ
    rw [wbt_re, h.rc.Wx]
    rw [h.rc.r1, h.rc.Whi, ← h.rc.r1]
    refine k_save h (fun S' G' k1 k2 => ?_)
    rw [wq_re]
    have hh : RC S' G' x nw := k1.rc
    have hg := k1.gi
    clear h
    have h := hh
    rw [wdr_put, h.Wx, p_discuss hg h (by omega), wbd_e]
    have kk := k_new (G := G) (w := (a_disc v q).2) k1 k2 (iv_disc hI hq).aw
    exact hQ _ G' kk.1 kk.2
  · rw [if_neg h2] at hQ ⊢
    rw [wbt_le]
    exact hQ S G h fc_r
def f_rebut (v : AS) (j : Int32) : (Nat ⊕ Int32) × Option AS := if a_isP v j then (.inr (a_reb v j.toNatClampNeg).1, some (a_reb v j.toNatClampNeg).2) else (.inl 2, none)
theorem k_rebut (h : RelC S G x nw v hs nx sl tn tx) (hI : IV v) (j : Int32) {Q : (Nat ⊕ Int32) → PH → Prop} (hQ : ∀ S' G', RelO S' G' x nw v hs nx sl tn tx (f_rebut v j).2 → fc S G S' G' → Q (f_rebut v j).1 S') : w_X4_rebut (some x) j S Q := by
  unfold w_X4_rebut
  unfold f_rebut at hQ
  rw [h.rc.Wx, k_reqP h.rc h.rv]
  by_cases h2 : a_isP v j = true
  · rw [if_pos h2] at hQ ⊢
    obtain ⟨q, hq, rfl⟩ := isP_n hI h2
    have h8 := hI.in_.2
    rw [n_cl (by omega)] at hQ
    rw [wbt_re, h.rc.Wx]
    rw [h.rc.r1, h.rc.Whi, ← h.rc.r1]
    refine k_save h (fun S' G' k1 k2 => ?_)
    rw [wq_re]
    have hh : RC S' G' x nw := k1.rc
    have hg := k1.gi
    clear h
    have h := hh
    rw [wdr_put, h.Wx, p_rebut hg h (by omega), wbd_e]
    have kk := k_new (G := G) (w := (a_reb v q).2) k1 k2 (iv_reb hI hq).aw
    exact hQ _ G' kk.1 kk.2
  · rw [if_neg h2] at hQ ⊢
    rw [wbt_le]
    exact hQ S G h fc_r
/-- 1: turned down, 2: taken -/
def a_dec (v : AS) (q : Nat) : Bool := !decide (a_sum (v (20 + q)) < nI 6 * a_bc (a_wri (v (20 + q))))
def f_decide (v : AS) (j : Int32) : (Nat ⊕ Int32) × Option AS := if a_isP v j then (if a_cd v j.toNatClampNeg then (.inr (if a_dec v j.toNatClampNeg then nI 1 else nI 0), some (u_2 v 9 j.toNatClampNeg (if a_dec v j.toNatClampNeg then nI 2 else nI 1))) else (.inl 1, none)) else (.inl 2, none)
theorem k_decide (h : RelC S G x nw v hs nx sl tn tx) (hI : IV v) (j : Int32) {Q : (Nat ⊕ Int32) → PH → Prop} (hQ : ∀ S' G', RelO S' G' x nw v hs nx sl tn tx (f_decide v j).2 → fc S G S' G' → Q (f_decide v j).1 S') : w_X4_decide (some x) j S Q := by
  unfold w_X4_decide
  unfold f_decide at hQ
  rw [h.rc.Wx, k_reqP h.rc h.rv]
  by_cases h2 : a_isP v j = true
  · rw [if_pos h2] at hQ ⊢
    obtain ⟨q, hq, rfl⟩ := isP_n hI h2
    have h8 := hI.in_.2
    rw [n_cl (by omega)] at hQ
    rw [wbt_re, h.rc.Wx, p_canDecide h.rc h.rv (by omega), wbd_e]
    by_cases h4 : a_cd v q = true
    · rw [if_pos h4] at hQ ⊢
      rw [if_neg (show ¬ nI 1 = 0 by decide), h.rc.Wx]
      rw [h.rc.r1, h.rc.Whi, ← h.rc.r1]
      refine k_save h (fun S' G' k1 k2 => ?_)
      rw [wq_re]
      have hh : RC S' G' x nw := k1.rc
      have hg := k1.gi
      clear h
      have h := hh
      have a8q : a8 (put S' G' 0 v) (p_R (put S' G' 0 v) (rf (put S' G' 0 v) nw 10) q) 6 8 := h.st.w (by omega)
      have gq : p_I (put S' G' 0 v) ((p_R (put S' G' 0 v) (rf (put S' G' 0 v) nw 10) q).getD 0) = v (20 + q) := g_w h.st (by omega)
      have e1 := p_sumIn a8q
      have e2 := p_writersIn a8q
      rw [gq] at e1 e2
      have rfe : rf (put S' G' 0 v) = rf S' := rfl
      rw [R_put, rfe] at e1 e2
      have fin : ∀ d, d ≤ 2 → RelO (put S' G' 0 (u_2 v 9 q (nI d))) G' x nw v hs nx sl tn tx (some (u_2 v 9 q (nI d))) ∧ fc S G (put S' G' 0 (u_2 v 9 q (nI d))) G' := fun d hd => k_new k1 k2 (iv_9 hI hq (by omega) hd).aw
      simp (disch := omega) only [z_0, z_1, z_2, z_3, z_4, z_5, z_6, z_7, z_8, z_9, z_10, z_12, z_13, z_15, z_17, z_20, z_25, z_31, z_33, z_41, z_49, z_57, z_60, z_72, z_100, z_161, z_255, z_256, z_999, z_9999, of_n, nI_add, pk_mul, n_le, n_lt, n_eq, n_cl, ck_n, ck_d, ck_tr, le_t, bd_t, ir_t, bt_r, bt_l, b_t, b_f, b_lt, b_lf, b_ef, z_m1, b_i0, b_i1, z_not, z_ps, f_mb, f_rf, ↓reduceIte, Nat.zero_add, Nat.add_zero, Nat.one_mul, Nat.mul_one, Nat.zero_mul, Nat.mul_zero, not_true_eq_false, not_false_eq_true, h.Wx, h.Wnow, h.r1, h.Whi, h.hi2, h.Wring, h.nring, h.Wsl, h.nsl, h.Wtx, h.Wcd, wdr_put, wle_t, wck_d, wck_tr, wck_n, wbd_e, wbt_re, wbt_le, h.st.Wd 0 (by decide), h.st.Wd 1 (by decide), h.st.Wd 2 (by decide), h.st.Wd 3 (by decide), h.st.Wd 4 (by decide), h.st.Wd 5 (by decide), h.st.Wd 6 (by decide), h.st.Wd 7 (by decide), h.st.Wd 8 (by decide), h.st.Wd 9 (by decide), h.st.W11, h.st.Ws, h.st.Ww, h.st.n 0 (by decide), h.st.n 1 (by decide), h.st.n 2 (by decide), h.st.n 3 (by decide), h.st.n 4 (by decide), h.st.n 5 (by decide), h.st.n 6 (by decide), h.st.n 7 (by decide), h.st.n 8 (by decide), h.st.n 9 (by decide), h.st.n11, h.st.ns, h.st.nw, wdr_put, h.r0, N_put, R_put, rf_put, a8_put, g_f h.st 0 (by decide), s_f hg h.st 0 (by decide), g_f h.st 1 (by decide), s_f hg h.st 1 (by decide), g_f h.st 2 (by decide), s_f hg h.st 2 (by decide), g_f h.st 3 (by decide), s_f hg h.st 3 (by decide), g_f h.st 4 (by decide), s_f hg h.st 4 (by decide), g_f h.st 5 (by decide), s_f hg h.st 5 (by decide), g_f h.st 6 (by decide), s_f hg h.st 6 (by decide), g_f h.st 7 (by decide), s_f hg h.st 7 (by decide), g_f h.st 8 (by decide), s_f hg h.st 8 (by decide), g_f h.st 9 (by decide), s_f hg h.st 9 (by decide), g_f11 h.st, s_f11 hg h.st, g_w h.st, s_w hg h.st, g_i h.st 12 (by decide) (by decide), s_i hg h.st 12 (by decide) (by decide), g_i h.st 13 (by decide) (by decide), s_i hg h.st 13 (by decide) (by decide), g_i h.st 14 (by decide) (by decide), s_i hg h.st 14 (by decide) (by decide), g_i h.st 15 (by decide) (by decide), s_i hg h.st 15 (by decide) (by decide), g_i h.st 16 (by decide) (by decide), s_i hg h.st 16 (by decide) (by decide), R_put, e1, e2, p_bc]
      unfold a_dec at hQ
      by_cases h6 : a_sum (v (20 + q)) < nI 6 * a_bc (a_wri (v (20 + q)))
      · have k := hQ (put S' G' 0 (u_2 v 9 q (nI 1))) G'
        rw [decide_eq_true h6] at k
        refine Eq.mpr (if_pos h6) ?_
        simp (disch := omega) only [wj_X4_decide_66, wj_X4_decide_84, z_0, z_1, z_2, z_3, z_4, z_5, z_6, z_7, z_8, z_9, z_10, z_12, z_13, z_15, z_17, z_20, z_25, z_31, z_33, z_41, z_49, z_57, z_60, z_72, z_100, z_161, z_255, z_256, z_999, z_9999, of_n, nI_add, pk_mul, n_le, n_lt, n_eq, n_cl, ck_n, ck_d, ck_tr, le_t, bd_t, ir_t, bt_r, bt_l, b_t, b_f, b_lt, b_lf, b_ef, z_m1, b_i0, b_i1, z_not, z_ps, f_mb, f_rf, ↓reduceIte, Nat.zero_add, Nat.add_zero, Nat.one_mul, Nat.mul_one, Nat.zero_mul, Nat.mul_zero, not_true_eq_false, not_false_eq_true, h.Wx, h.Wnow, h.r1, h.Whi, h.hi2, h.Wring, h.nring, h.Wsl, h.nsl, h.Wtx, h.Wcd, wdr_put, wle_t, wck_d, wck_tr, wck_n, wbd_e, wbt_re, wbt_le, h.st.Wd 0 (by decide), h.st.Wd 1 (by decide), h.st.Wd 2 (by decide), h.st.Wd 3 (by decide), h.st.Wd 4 (by decide), h.st.Wd 5 (by decide), h.st.Wd 6 (by decide), h.st.Wd 7 (by decide), h.st.Wd 8 (by decide), h.st.Wd 9 (by decide), h.st.W11, h.st.Ws, h.st.Ww, h.st.n 0 (by decide), h.st.n 1 (by decide), h.st.n 2 (by decide), h.st.n 3 (by decide), h.st.n 4 (by decide), h.st.n 5 (by decide), h.st.n 6 (by decide), h.st.n 7 (by decide), h.st.n 8 (by decide), h.st.n 9 (by decide), h.st.n11, h.st.ns, h.st.nw, wdr_put, h.r0, N_put, R_put, rf_put, a8_put, g_f h.st 0 (by decide), s_f hg h.st 0 (by decide), g_f h.st 1 (by decide), s_f hg h.st 1 (by decide), g_f h.st 2 (by decide), s_f hg h.st 2 (by decide), g_f h.st 3 (by decide), s_f hg h.st 3 (by decide), g_f h.st 4 (by decide), s_f hg h.st 4 (by decide), g_f h.st 5 (by decide), s_f hg h.st 5 (by decide), g_f h.st 6 (by decide), s_f hg h.st 6 (by decide), g_f h.st 7 (by decide), s_f hg h.st 7 (by decide), g_f h.st 8 (by decide), s_f hg h.st 8 (by decide), g_f h.st 9 (by decide), s_f hg h.st 9 (by decide), g_f11 h.st, s_f11 hg h.st, g_w h.st, s_w hg h.st, g_i h.st 12 (by decide) (by decide), s_i hg h.st 12 (by decide) (by decide), g_i h.st 13 (by decide) (by decide), s_i hg h.st 13 (by decide) (by decide), g_i h.st 14 (by decide) (by decide), s_i hg h.st 14 (by decide) (by decide), g_i h.st 15 (by decide) (by decide), s_i hg h.st 15 (by decide) (by decide), g_i h.st 16 (by decide) (by decide), s_i hg h.st 16 (by decide) (by decide), R_put]
        exact k (fin 1 (by omega)).1 (fin 1 (by omega)).2
      · have k := hQ (put S' G' 0 (u_2 v 9 q (nI 2))) G'
        rw [decide_eq_false h6] at k
        refine Eq.mpr (if_neg h6) ?_
        simp (disch := omega) only [wj_X4_decide_66, wj_X4_decide_84, z_0, z_1, z_2, z_3, z_4, z_5, z_6, z_7, z_8, z_9, z_10, z_12, z_13, z_15, z_17, z_20, z_25, z_31, z_33, z_41, z_49, z_57, z_60, z_72, z_100, z_161, z_255, z_256, z_999, z_9999, of_n, nI_add, pk_mul, n_le, n_lt, n_eq, n_cl, ck_n, ck_d, ck_tr, le_t, bd_t, ir_t, bt_r, bt_l, b_t, b_f, b_lt, b_lf, b_ef, z_m1, b_i0, b_i1, z_not, z_ps, f_mb, f_rf, ↓reduceIte, Nat.zero_add, Nat.add_zero, Nat.one_mul, Nat.mul_one, Nat.zero_mul, Nat.mul_zero, not_true_eq_false, not_false_eq_true, h.Wx, h.Wnow, h.r1, h.Whi, h.hi2, h.Wring, h.nring, h.Wsl, h.nsl, h.Wtx, h.Wcd, wdr_put, wle_t, wck_d, wck_tr, wck_n, wbd_e, wbt_re, wbt_le, h.st.Wd 0 (by decide), h.st.Wd 1 (by decide), h.st.Wd 2 (by decide), h.st.Wd 3 (by decide), h.st.Wd 4 (by decide), h.st.Wd 5 (by decide), h.st.Wd 6 (by decide), h.st.Wd 7 (by decide), h.st.Wd 8 (by decide), h.st.Wd 9 (by decide), h.st.W11, h.st.Ws, h.st.Ww, h.st.n 0 (by decide), h.st.n 1 (by decide), h.st.n 2 (by decide), h.st.n 3 (by decide), h.st.n 4 (by decide), h.st.n 5 (by decide), h.st.n 6 (by decide), h.st.n 7 (by decide), h.st.n 8 (by decide), h.st.n 9 (by decide), h.st.n11, h.st.ns, h.st.nw, wdr_put, h.r0, N_put, R_put, rf_put, a8_put, g_f h.st 0 (by decide), s_f hg h.st 0 (by decide), g_f h.st 1 (by decide), s_f hg h.st 1 (by decide), g_f h.st 2 (by decide), s_f hg h.st 2 (by decide), g_f h.st 3 (by decide), s_f hg h.st 3 (by decide), g_f h.st 4 (by decide), s_f hg h.st 4 (by decide), g_f h.st 5 (by decide), s_f hg h.st 5 (by decide), g_f h.st 6 (by decide), s_f hg h.st 6 (by decide), g_f h.st 7 (by decide), s_f hg h.st 7 (by decide), g_f h.st 8 (by decide), s_f hg h.st 8 (by decide), g_f h.st 9 (by decide), s_f hg h.st 9 (by decide), g_f11 h.st, s_f11 hg h.st, g_w h.st, s_w hg h.st, g_i h.st 12 (by decide) (by decide), s_i hg h.st 12 (by decide) (by decide), g_i h.st 13 (by decide) (by decide), s_i hg h.st 13 (by decide) (by decide), g_i h.st 14 (by decide) (by decide), s_i hg h.st 14 (by decide) (by decide), g_i h.st 15 (by decide) (by decide), s_i hg h.st 15 (by decide) (by decide), g_i h.st 16 (by decide) (by decide), s_i hg h.st 16 (by decide) (by decide), R_put]
        exact k (fin 2 (by omega)).1 (fin 2 (by omega)).2
    · rw [if_neg h4] at hQ ⊢
      rw [if_pos (show nI 0 = 0 from rfl)]
      exact hQ S G h fc_r
  · rw [if_neg h2] at hQ ⊢
    rw [wbt_le]
    exact hQ S G h fc_r
end FB
