/-! SAVING A STATE, KEEPING A SNAPSHOT -/
section SV
variable {S : PH} {G : Nat → Nat} {x nw : Nat} {v : AS} {hs : List AS} {nx : Nat} {sl : Nat → Option AS} {tn : Nat} {tx : Nat → Int32}
theorem R_I {S : PH} {a k : Nat} {w : Int32} : p_R (s_I S a k w) = p_R S := rfl
theorem N_I {S : PH} {a k : Nat} {w : Int32} : p_N (s_I S a k w) = p_N S := rfl
theorem wdr_I {S : PH} {a k : Nat} {w : Int32} {c : Nat} {r : Option Nat} {f : Nat → Prop} : wdr (s_I S a k w) c r f = wdr S c r f := rfl
theorem dr_I {S : PH} {a k : Nat} {w : Int32} {c : Nat} {r : Option Nat} {β : Type} {f : Nat → Option β} : dr (s_I S a k w) c r f = dr S c r f := rfl
theorem rf_I {S : PH} {a k : Nat} {w : Int32} : rf (s_I S a k w) = rf S := rfl
theorem wq_re {α : Type} {f : α → PH → Prop} {g : Nat → PH → Prop} {v : α} {S : PH} : wq f g (.inr v) S = f v S := rfl
theorem wq_le {α : Type} {f : α → PH → Prop} {g : Nat → PH → Prop} {j : Nat} {S : PH} : wq f g (.inl j) S = g j S := rfl
theorem mmin_n {a b : Nat} (ha : a < 2147483648) (hb : b < 2147483648) : mmin (nI a) (nI b) = nI (min a b) := by
  unfold mmin
  by_cases h : b < a
  · rw [if_pos ((n_lt hb ha).mpr h), Nat.min_eq_right (by omega)]
  · rw [if_neg (fun z => h ((n_lt hb ha).mp z)), Nat.min_eq_left (by omega)]
/-- the way on when there is a place -/
theorem wk_save_32 (h : RelC S G x nw v hs nx sl tn tx) {q : Nat} (hq : p_R S (hR S x) nx = some q) {Q : (Nat ⊕ Unit) → PH → Prop} (hQ : ∀ S', RelC S' G x nw v ((v :: hs).take 6) ((nx + 1) % 6) sl tn tx → fc S G S' G → Q (.inr ()) S') : wj_X0_save_32 (some (rf S x 1)) (some nw) Q (some q) S := by
  obtain ⟨g1, g3, g30, g5, gR, gS, gx, _, _⟩ := relC_tags h
  obtain ⟨n1, n2, n3, n4⟩ := h.hn
  have hrc := h.rc
  obtain ⟨sq, w, rq, aq⟩ := (h.ri nx n2).1 q hq
  have hb : m_X2_become (some q) (some nw) S = some ((), put S G (1 + nx) v) := by
    have k := p_become (v := w) (w := v) h.gi sq h.rc.st (by omega) h.rv aq h.aw
    rwa [put_self h.gi sq rq] at k
  have i1 : p_I (put S G (1 + nx) v) (rf S x 1) = p_I S (rf S x 1) := pv_o (by omega)
  have hS := relC_save h (by rw [hq]; exact Option.some_ne_none q)
  have hfin : fc S G (s_I (s_I (put S G (1 + nx) v) (rf S x 1) 1 (nI ((nx + 1) % 6))) (rf S x 1) 2 (nI (min 6 (hs.length + 1)))) G := fc_t (fc_t (fc_put (by omega)) (fc_I (by omega))) (fc_I (by omega))
  have e2 : ∀ w, p_I (s_I (put S G (1 + nx) v) (rf S x 1) 1 w) (rf S x 1) 2 = nI hs.length := by
    intro w
    show u_2 _ (rf S x 1) 1 w (rf S x 1) 2 = _
    rw [u2_ne (Or.inr (by decide))]
    show p_I (put S G (1 + nx) v) (rf S x 1) 2 = _
    rw [i1, n3]
  have hW0 : ∀ {f : Nat → Prop}, wdr S 0 (some (rf S x 1)) f = f (rf S x 1) := fun {f} => h.rc.Whi
  have key : wj_X0_save_59 (some (rf S x 1)) (some nw) Q (some (rf S x 1)) (nI ((nx + 1) % 6)) (put S G (1 + nx) v) := by
    simp (disch := omega) only [wj_X0_save_59, wdr_put, wdr_I, hW0, wle_t, e2, z_0, z_1, z_2, z_3, z_4, z_5, z_6, z_7, z_8, z_9, z_10, z_12, z_13, z_15, z_17, z_20, z_25, z_31, z_33, z_41, z_49, z_57, z_60, z_72, z_100, z_161, z_255, z_256, z_999, z_9999, of_n, nI_add, pk_mul, n_le, n_lt, n_eq, n_cl, ck_n, ck_d, ck_tr, le_t, bd_t, ir_t, bt_r, bt_l, b_t, b_f, b_lt, b_lf, b_ef, z_m1, b_i0, b_i1, z_not, z_ps, f_mb, f_rf, ↓reduceIte, Nat.zero_add, Nat.add_zero, Nat.one_mul, Nat.mul_one, Nat.zero_mul, Nat.mul_zero, not_true_eq_false, not_false_eq_true, mmin_n]
    exact hQ _ hS hfin
  unfold wj_X0_save_32
  rw [wdr_e sq.1.1, hb, wbd_e]
  simp only [wdr_put]
  rw [hW0, i1, n1]
  by_cases h5 : nx + 1 < 6
  · have e : (nx + 1) % 6 = nx + 1 := by omega
    rw [e] at key
    simp (disch := omega) only [z_0, z_1, z_2, z_3, z_4, z_5, z_6, z_7, z_8, z_9, z_10, z_12, z_13, z_15, z_17, z_20, z_25, z_31, z_33, z_41, z_49, z_57, z_60, z_72, z_100, z_161, z_255, z_256, z_999, z_9999, of_n, nI_add, pk_mul, n_le, n_lt, n_eq, n_cl, ck_n, ck_d, ck_tr, le_t, bd_t, ir_t, bt_r, bt_l, b_t, b_f, b_lt, b_lf, b_ef, z_m1, b_i0, b_i1, z_not, z_ps, f_mb, f_rf, ↓reduceIte, Nat.zero_add, Nat.add_zero, Nat.one_mul, Nat.mul_one, Nat.zero_mul, Nat.mul_zero, not_true_eq_false, not_false_eq_true]
    exact key
  · have e : (nx + 1) % 6 = 0 := by omega
    rw [e] at key
    simp (disch := omega) only [z_0, z_1, z_2, z_3, z_4, z_5, z_6, z_7, z_8, z_9, z_10, z_12, z_13, z_15, z_17, z_20, z_25, z_31, z_33, z_41, z_49, z_57, z_60, z_72, z_100, z_161, z_255, z_256, z_999, z_9999, of_n, nI_add, pk_mul, n_le, n_lt, n_eq, n_cl, ck_n, ck_d, ck_tr, le_t, bd_t, ir_t, bt_r, bt_l, b_t, b_f, b_lt, b_lf, b_ef, z_m1, b_i0, b_i1, z_not, z_ps, f_mb, f_rf, ↓reduceIte, Nat.zero_add, Nat.add_zero, Nat.one_mul, Nat.mul_one, Nat.zero_mul, Nat.mul_zero, not_true_eq_false, not_false_eq_true]
    exact key
theorem wk_save (h : RelC S G x nw v hs nx sl tn tx) {Q : (Nat ⊕ Unit) → PH → Prop} (hQ : ∀ S' G', RelC S' G' x nw v ((v :: hs).take 6) ((nx + 1) % 6) sl tn tx → fc S G S' G' → (∀ d, d ∈ p_L S → G d ≠ 0 → G' d = G d) → Q (.inr ()) S') : w_X0_save (some (rf S x 1)) (some nw) S Q := by
  obtain ⟨g1, g3, g30, g5, gR, gS, gx, _, _⟩ := relC_tags h
  obtain ⟨n1, n2, n3, n4⟩ := h.hn
  unfold w_X0_save
  rw [h.rc.Whi, h.rc.Wring, n1, h.rc.nring, wck_n n2 (by decide), wle_t, n_cl (by omega)]
  cases hq : p_R S (rf S (rf S x 1) 0) nx with
  | some q =>
    rw [if_pos (Option.some_ne_none q)]
    exact wk_save_32 h hq (fun S' h1 h2 => hQ S' G h1 h2 (fun _ _ _ => rfl))
  | none =>
    rw [if_neg (fun z => z rfl)]
    intro q hqS
    have hnew := relC_new h (r := hR S x) (i := nx) (b := 1 + nx) (Or.inl ⟨rfl, n2, rfl⟩) hq hqS (Q := wq (fun v43 S44 => wle (some q) fun r47 => wdr S44 0 (some (rf S x 1)) fun a49 => wdr S44 8 (p_R S44 a49 0) fun a52 => wdr S44 2 r47 fun a55 => wck (ix (p_I S44 a49 1) (p_N S44 a52)) <| wle (s_R S44 a52 (Int32.toNatClampNeg (p_I S44 a49 1)) r47) fun S59 => wj_X0_save_32 (some (rf S x 1)) (some nw) Q r47 S59) (fun _ _ => False)) (fun S2 G2 hr hfc k2 e0 e1 rc2 qS2 i2 => ?_)
    · rw [wle_t, wdr_e hnew.1]
      exact hnew.2
    · have e3 : (fun j => if hR S x = rf S x 2 ∧ j = nx then some v0 else sl j) = sl := by
        funext j
        rw [if_neg]
        rintro ⟨z, _⟩
        rw [z] at gR
        omega
      rw [e3] at hr
      have f0 : rf S2 x 1 = rf S x 1 := rf_e e0
      have f1 : rf S2 (rf S x 1) 0 = hR S x := rf_e e1
      rw [wq_re]
      have r1 := rc2.Whi (f := fun a49 => wdr S2 8 (p_R S2 a49 0) fun a52 => wdr S2 2 (some q) fun a55 => wck (ix (p_I S2 a49 1) (p_N S2 a52)) <| wle (s_R S2 a52 (Int32.toNatClampNeg (p_I S2 a49 1)) (some q)) fun S59 => wj_X0_save_32 (some (rf S x 1)) (some nw) Q (some q) S59)
      rw [f0] at r1
      rw [wle_t, r1]
      have r2 := fun f => rc2.Wring (f := f)
      rw [f0, f1] at r2
      have r3 := rc2.nring
      rw [f0, f1] at r3
      rw [r2, wdr_e qS2, i2, n1, r3, wck_n n2 (by decide), wle_t, n_cl (by omega)]
      have f4 : rf (s_R S2 (hR S x) nx (some q)) x 1 = rf S x 1 := by
        have : p_R (s_R S2 (hR S x) nx (some q)) x = p_R S2 x := u2_o (fun z => by rw [← z] at gR; omega)
        exact (rf_e this).trans f0
      have f5 : hR (s_R S2 (hR S x) nx (some q)) x = hR S x := by
        have : p_R (s_R S2 (hR S x) nx (some q)) (rf S x 1) = p_R S2 (rf S x 1) := u2_o (fun z => by rw [← z] at gR; omega)
        show rf (s_R S2 (hR S x) nx (some q)) (rf (s_R S2 (hR S x) nx (some q)) x 1) 0 = hR S x
        rw [f4]
        exact (rf_e this).trans f1
      have k := wk_save_32 hr (q := q) (Q := Q) (by
        rw [f5]
        show u_2 _ (hR S x) nx (some q) (hR S x) nx = _
        unfold u_2
        exact if_pos ⟨rfl, rfl⟩) (fun S' h1 h2 => hQ S' G2 h1 (fc_t hfc h2) (fun d hd h0 => (k2 d hd h0).1.2.2.2))
      rw [f4] at k
      exact k
end SV
