/-! THE FACE: what is asked before -/
theorem in_n {i : Int32} {u : Nat} (hu : u < 2147483648) (h : a_in i (nI 0) (nI u) = true) : ∃ p, p ≤ u ∧ i = nI p := by
  unfold a_in at h
  rw [Bool.and_eq_true, Bool.not_eq_true', Bool.not_eq_true', decide_eq_false_iff_not, decide_eq_false_iff_not] at h
  have h1 : ¬ i.toInt < (nI 0).toInt := fun z => h.1 (Int32.lt_iff_toInt_lt.mpr z)
  have h2 : ¬ (nI u).toInt < i.toInt := fun z => h.2 (Int32.lt_iff_toInt_lt.mpr z)
  rw [nI_toInt (by omega)] at h1
  rw [nI_toInt hu] at h2
  refine ⟨i.toInt.toNat, by omega, Int32.toInt_inj.mp ?_⟩
  rw [nI_toInt (by omega)]
  omega
theorem k_req (i : Int32) (S : PH) : m_X4_requirePerson i S = some (if a_in i (nI 0) (nI 7) then .inr () else .inl 2, S) := by
  unfold m_X4_requirePerson j_X4_requirePerson_10 a_in
  have e : (i < (8 : Int32)) = ¬ (nI 7 < i) := by
    refine propext ?_
    rw [Int32.lt_iff_toInt_lt, Int32.lt_iff_toInt_lt]
    show i.toInt < 8 ↔ ¬ 7 < i.toInt
    omega
  simp only [z_0]
  by_cases h1 : i < nI 0
  · simp [h1]
  · by_cases h2 : nI 7 < i
    · simp [h1, h2, e]
    · simp [h1, h2, e]
theorem k_reqP {S : PH} {G : Nat → Nat} {x nw : Nat} {v : AS} (h : RC S G x nw) (hr : rep S nw v) (i : Int32) : m_X4_requirePaper (some x) i S = some (if a_isP v i then .inr () else .inl 2, S) := by
  unfold m_X4_requirePaper
  rw [h.x4, p_isPaper h hr, bd_t]
  cases a_isP v i <;> rfl
theorem isP_n {v : AS} (hI : IV v) {i : Int32} (h : a_isP v i = true) : ∃ q, q < a_n v ∧ i = nI q := by
  obtain ⟨e, h8⟩ := hI.in_
  unfold a_isP at h
  rw [e] at h
  rw [Bool.and_eq_true, Bool.and_eq_true, Bool.not_eq_true', Bool.not_eq_true', Bool.not_eq_true', decide_eq_false_iff_not, decide_eq_false_iff_not, decide_eq_false_iff_not] at h
  have h1 : ¬ i.toInt < (nI 0).toInt := fun z => h.1 (Int32.lt_iff_toInt_lt.mpr z)
  have h2 : ¬ (nI (a_n v)).toInt ≤ i.toInt := fun z => h.2.2 (Int32.le_iff_toInt_le.mpr z)
  rw [nI_toInt (by omega)] at h1
  rw [nI_toInt (by omega)] at h2
  refine ⟨i.toInt.toNat, by omega, Int32.toInt_inj.mp ?_⟩
  rw [nI_toInt (by omega)]
  omega
/-- between two bounds -/
theorem rng {α : Type} {i l u : Int32} {A B : α} : (if i < l then A else if i ≤ u then B else A) = if a_in i l u = true then B else A := by
  unfold a_in
  have e : (i ≤ u) = ¬ (u < i) := by
    refine propext ?_
    rw [Int32.le_iff_toInt_le, Int32.lt_iff_toInt_lt]
    omega
  by_cases h1 : i < l
  · simp [h1]
  · by_cases h2 : u < i
    · simp [h1, h2, e]
    · simp [h1, h2, e]
theorem rng4 {α : Type} {i : Int32} {A B : α} : (if i < nI 0 then A else if i < nI 4 then B else A) = if a_in i (nI 0) (nI 3) = true then B else A := by
  have e : (i < nI 4) = (i ≤ nI 3) := by
    refine propext ?_
    rw [Int32.le_iff_toInt_le, Int32.lt_iff_toInt_lt]
    show i.toInt < 4 ↔ i.toInt ≤ 3
    omega
  rw [← rng]
  simp only [e]
theorem k_reqS (i : Int32) (S : PH) : m_X4_requireSetting i S = some (if a_in i (nI 0) (nI 3) then .inr () else .inl 2, S) := by
  unfold m_X4_requireSetting j_X4_requireSetting_9
  rw [show ((0 : Int32)) = nI 0 from rfl, show (4 : Int32) = nI 4 from rfl, rng4]
  split <;> rfl
section FA
variable {S : PH} {G : Nat → Nat} {x nw : Nat} {v : AS} {hs : List AS} {nx : Nat} {sl : Nat → Option AS} {tn : Nat} {tx : Nat → Int32}
/-- what comes of an order: nothing, or now is another and what was is saved -/
def RelO (S : PH) (G : Nat → Nat) (x nw : Nat) (v : AS) (hs : List AS) (nx : Nat) (sl : Nat → Option AS) (tn : Nat) (tx : Nat → Int32) : Option AS → Prop
  | none => RelC S G x nw v hs nx sl tn tx
  | some w => RelC S G x nw w ((v :: hs).take 6) ((nx + 1) % 6) sl tn tx
theorem k_save (h : RelC S G x nw v hs nx sl tn tx) {Q : (Nat ⊕ Unit) → PH → Prop} (hQ : ∀ S' G', RelC (put S' G' 0 v) G' x nw v ((v :: hs).take 6) ((nx + 1) % 6) sl tn tx → fc S G (put S' G' 0 v) G' → Q (.inr ()) (put S' G' 0 v)) : w_X0_save (p_R S x 1) (p_R S x 0) S Q := by
  rw [h.rc.r1, h.rc.r0]
  refine wk_save h (fun S' G' h1 h2 _ => ?_)
  have e := put_self h1.gi h1.rc.st h1.rv
  have k := hQ S' G'
  rw [e] at k
  exact k h1 h2
/-- after the saving: an order's work gives w, and the relation -/
theorem k_new {S' : PH} {G' : Nat → Nat} (h : RelC (put S' G' 0 v) G' x nw v ((v :: hs).take 6) ((nx + 1) % 6) sl tn tx) (hf : fc S G (put S' G' 0 v) G') {w : AS} (hw : AW w) : RelO (put S' G' 0 w) G' x nw v hs nx sl tn tx (some w) ∧ fc S G (put S' G' 0 w) G' := by
  have k1 := relC_put h hw
  have k2 : fc (put S' G' 0 v) G' (put (put S' G' 0 v) G' 0 w) G' := fc_put (by omega)
  rw [put_put] at k1 k2
  exact ⟨k1, fc_t hf k2⟩
def f_topics (v : AS) (i j : Int32) : (Nat ⊕ Int32) × Option AS := if a_in i (nI 0) (nI 7) then (if a_in j (nI 0) (nI 15) then (.inr (v 0 i.toNatClampNeg), some (u_2 v 0 i.toNatClampNeg j)) else (.inl 0, none)) else (.inl 2, none)
theorem k_topics (h : RelC S G x nw v hs nx sl tn tx) (hI : IV v) (i j : Int32) {Q : (Nat ⊕ Int32) → PH → Prop} (hQ : ∀ S' G', RelO S' G' x nw v hs nx sl tn tx (f_topics v i j).2 → fc S G S' G' → Q (f_topics v i j).1 S') : w_X4_topics (some x) i j S Q := by
  unfold w_X4_topics
  rw [k_req]
  unfold f_topics at hQ
  by_cases h1 : a_in i (nI 0) (nI 7) = true
  · rw [if_pos h1] at hQ ⊢
    rw [wbt_re]
    obtain ⟨p, hp, rfl⟩ := in_n (by omega) h1
    rw [n_cl (by omega)] at hQ
    rw [show ((0 : Int32)) = nI 0 from rfl, show (15 : Int32) = nI 15 from rfl, rng]
    by_cases h2 : a_in j (nI 0) (nI 15) = true
    · rw [if_pos h2] at hQ ⊢
      obtain ⟨k, hk, rfl⟩ := in_n (by omega) h2
      rw [h.rc.Wx]
      rw [h.rc.r1, h.rc.Whi, ← h.rc.r1]
      refine k_save h (fun S' G' k1 k2 => ?_)
      rw [wq_re]
      have hh : RC S' G' x nw := k1.rc
      have hg := k1.gi
      clear h
      have h := hh
      simp (disch := omega) only [z_0, z_1, z_2, z_3, z_4, z_5, z_6, z_7, z_8, z_9, z_10, z_12, z_13, z_15, z_17, z_20, z_25, z_31, z_33, z_41, z_49, z_57, z_60, z_72, z_100, z_161, z_255, z_256, z_999, z_9999, of_n, nI_add, pk_mul, n_le, n_lt, n_eq, n_cl, ck_n, ck_d, ck_tr, le_t, bd_t, ir_t, bt_r, bt_l, b_t, b_f, b_lt, b_lf, b_ef, z_m1, b_i0, b_i1, z_not, z_ps, f_mb, f_rf, ↓reduceIte, Nat.zero_add, Nat.add_zero, Nat.one_mul, Nat.mul_one, Nat.zero_mul, Nat.mul_zero, not_true_eq_false, not_false_eq_true, h.Wx, h.Wnow, h.r1, h.Whi, h.hi2, h.Wring, h.nring, h.Wsl, h.nsl, h.Wtx, h.Wcd, wdr_put, wle_t, wck_d, wck_tr, wck_n, wbd_e, wbt_re, wbt_le, h.st.Wd 0 (by decide), h.st.Wd 1 (by decide), h.st.Wd 2 (by decide), h.st.Wd 3 (by decide), h.st.Wd 4 (by decide), h.st.Wd 5 (by decide), h.st.Wd 6 (by decide), h.st.Wd 7 (by decide), h.st.Wd 8 (by decide), h.st.Wd 9 (by decide), h.st.W11, h.st.Ws, h.st.Ww, h.st.n 0 (by decide), h.st.n 1 (by decide), h.st.n 2 (by decide), h.st.n 3 (by decide), h.st.n 4 (by decide), h.st.n 5 (by decide), h.st.n 6 (by decide), h.st.n 7 (by decide), h.st.n 8 (by decide), h.st.n 9 (by decide), h.st.n11, h.st.ns, h.st.nw, wdr_put, h.r0, N_put, R_put, rf_put, a8_put, g_f h.st 0 (by decide), s_f hg h.st 0 (by decide), g_f h.st 1 (by decide), s_f hg h.st 1 (by decide), g_f h.st 2 (by decide), s_f hg h.st 2 (by decide), g_f h.st 3 (by decide), s_f hg h.st 3 (by decide), g_f h.st 4 (by decide), s_f hg h.st 4 (by decide), g_f h.st 5 (by decide), s_f hg h.st 5 (by decide), g_f h.st 6 (by decide), s_f hg h.st 6 (by decide), g_f h.st 7 (by decide), s_f hg h.st 7 (by decide), g_f h.st 8 (by decide), s_f hg h.st 8 (by decide), g_f h.st 9 (by decide), s_f hg h.st 9 (by decide), g_f11 h.st, s_f11 hg h.st, g_w h.st, s_w hg h.st, g_i h.st 12 (by decide) (by decide), s_i hg h.st 12 (by decide) (by decide), g_i h.st 13 (by decide) (by decide), s_i hg h.st 13 (by decide) (by decide), g_i h.st 14 (by decide) (by decide), s_i hg h.st 14 (by decide) (by decide), g_i h.st 15 (by decide) (by decide), s_i hg h.st 15 (by decide) (by decide), g_i h.st 16 (by decide) (by decide), s_i hg h.st 16 (by decide) (by decide), R_put]
      have kk := k_new (G := G) (w := u_2 v 0 p (nI k)) k1 k2 (iv_free hI (by omega) (by omega)).aw
      exact hQ _ G' kk.1 kk.2
    · rw [if_neg h2] at hQ ⊢
      exact hQ S G h fc_r
  · rw [if_neg h1] at hQ ⊢
    rw [wbt_le]
    exact hQ S G h fc_r
def a_meet (v : AS) (p q : Nat) : AS := u_2 (u_2 v 1 p (v 1 p ^^^ mb q)) 1 q (u_2 v 1 p (v 1 p ^^^ mb q) 1 q ^^^ mb p)
def f_meet (v : AS) (i j : Int32) : (Nat ⊕ Int32) × Option AS := if a_in i (nI 0) (nI 7) then (if a_in j (nI 0) (nI 7) then (if i = j then (.inl 0, none) else (.inr (if hb (a_meet v i.toNatClampNeg j.toNatClampNeg 1 i.toNatClampNeg) j then nI 1 else nI 0), some (a_meet v i.toNatClampNeg j.toNatClampNeg))) else (.inl 2, none)) else (.inl 2, none)
theorem aw_meet (hI : IV v) {p q : Nat} (hp : p < 8) (hq : q < 8) : AW (a_meet v p q) := by
  have h := hI.aw
  refine ⟨fun f k hf hk => ?_, fun k hk => ?_⟩
  · unfold a_meet
    rw [u_k (by omega), u_k (by omega)]
    exact h.1 f k hf hk
  · unfold a_meet
    rw [u_ne (by omega), u_ne (by omega)]
    exact h.2 k hk
theorem k_meet (h : RelC S G x nw v hs nx sl tn tx) (hI : IV v) (i j : Int32) {Q : (Nat ⊕ Int32) → PH → Prop} (hQ : ∀ S' G', RelO S' G' x nw v hs nx sl tn tx (f_meet v i j).2 → fc S G S' G' → Q (f_meet v i j).1 S') : w_X4_meet (some x) i j S Q := by
  unfold w_X4_meet
  rw [k_req]
  unfold f_meet at hQ
  by_cases h1 : a_in i (nI 0) (nI 7) = true
  · rw [if_pos h1] at hQ ⊢
    rw [wbt_re, k_req]
    by_cases h2 : a_in j (nI 0) (nI 7) = true
    · rw [if_pos h2] at hQ ⊢
      rw [wbt_re]
      obtain ⟨p, hp, rfl⟩ := in_n (by omega) h1
      obtain ⟨q, hq, rfl⟩ := in_n (by omega) h2
      rw [n_cl (by omega), n_cl (by omega)] at hQ
      by_cases h3 : nI p = nI q
      · rw [if_pos h3] at hQ ⊢
        exact hQ S G h fc_r
      · rw [if_neg h3] at hQ ⊢
        rw [h.rc.Wx]
        rw [h.rc.r1, h.rc.Whi, ← h.rc.r1]
        refine k_save h (fun S' G' k1 k2 => ?_)
        rw [wq_re]
        have hh : RC S' G' x nw := k1.rc
        have hg := k1.gi
        clear h
        have h := hh
        have e9 : ∀ S, m_X4_has (a_meet v p q 1 p) (nI q) S = some (if hb (a_meet v p q 1 p) (nI q) then nI 1 else nI 0, S) := fun S => p_hasN _ _ S
        have kk := k_new (G := G) (w := a_meet v p q) k1 k2 (aw_meet hI (by omega) (by omega))
        have e8 : u_2 (u_2 v 1 p (v 1 p ^^^ mb q)) 1 q (u_2 v 1 p (v 1 p ^^^ mb q) 1 q ^^^ mb p) = a_meet v p q := rfl
        simp (disch := omega) only [z_0, z_1, z_2, z_3, z_4, z_5, z_6, z_7, z_8, z_9, z_10, z_12, z_13, z_15, z_17, z_20, z_25, z_31, z_33, z_41, z_49, z_57, z_60, z_72, z_100, z_161, z_255, z_256, z_999, z_9999, of_n, nI_add, pk_mul, n_le, n_lt, n_eq, n_cl, ck_n, ck_d, ck_tr, le_t, bd_t, ir_t, bt_r, bt_l, b_t, b_f, b_lt, b_lf, b_ef, z_m1, b_i0, b_i1, z_not, z_ps, f_mb, f_rf, ↓reduceIte, Nat.zero_add, Nat.add_zero, Nat.one_mul, Nat.mul_one, Nat.zero_mul, Nat.mul_zero, not_true_eq_false, not_false_eq_true, h.Wx, h.Wnow, h.r1, h.Whi, h.hi2, h.Wring, h.nring, h.Wsl, h.nsl, h.Wtx, h.Wcd, wdr_put, wle_t, wck_d, wck_tr, wck_n, wbd_e, wbt_re, wbt_le, h.st.Wd 0 (by decide), h.st.Wd 1 (by decide), h.st.Wd 2 (by decide), h.st.Wd 3 (by decide), h.st.Wd 4 (by decide), h.st.Wd 5 (by decide), h.st.Wd 6 (by decide), h.st.Wd 7 (by decide), h.st.Wd 8 (by decide), h.st.Wd 9 (by decide), h.st.W11, h.st.Ws, h.st.Ww, h.st.n 0 (by decide), h.st.n 1 (by decide), h.st.n 2 (by decide), h.st.n 3 (by decide), h.st.n 4 (by decide), h.st.n 5 (by decide), h.st.n 6 (by decide), h.st.n 7 (by decide), h.st.n 8 (by decide), h.st.n 9 (by decide), h.st.n11, h.st.ns, h.st.nw, wdr_put, h.r0, N_put, R_put, rf_put, a8_put, g_f h.st 0 (by decide), s_f hg h.st 0 (by decide), g_f h.st 1 (by decide), s_f hg h.st 1 (by decide), g_f h.st 2 (by decide), s_f hg h.st 2 (by decide), g_f h.st 3 (by decide), s_f hg h.st 3 (by decide), g_f h.st 4 (by decide), s_f hg h.st 4 (by decide), g_f h.st 5 (by decide), s_f hg h.st 5 (by decide), g_f h.st 6 (by decide), s_f hg h.st 6 (by decide), g_f h.st 7 (by decide), s_f hg h.st 7 (by decide), g_f h.st 8 (by decide), s_f hg h.st 8 (by decide), g_f h.st 9 (by decide), s_f hg h.st 9 (by decide), g_f11 h.st, s_f11 hg h.st, g_w h.st, s_w hg h.st, g_i h.st 12 (by decide) (by decide), s_i hg h.st 12 (by decide) (by decide), g_i h.st 13 (by decide) (by decide), s_i hg h.st 13 (by decide) (by decide), g_i h.st 14 (by decide) (by decide), s_i hg h.st 14 (by decide) (by decide), g_i h.st 15 (by decide) (by decide), s_i hg h.st 15 (by decide) (by decide), g_i h.st 16 (by decide) (by decide), s_i hg h.st 16 (by decide) (by decide), R_put, z_31, e8, e9]
        have k := hQ _ G' kk.1 kk.2
        revert k
        cases hb (a_meet v p q 1 p) (nI q) with
        | true => exact fun k => k
        | false => exact fun k => k
    · rw [if_neg h2] at hQ ⊢
      rw [wbt_le]
      exact hQ S G h fc_r
  · rw [if_neg h1] at hQ ⊢
    rw [wbt_le]
    exact hQ S G h fc_r
end FA
