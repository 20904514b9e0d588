/-! WHAT ALWAYS HOLDS goes on to hold: the orders -/
section KP
variable {v : AS} {p q : Nat}
theorem ow_p {x : Int32} (hq : q < 8) : ow (u_2 v (20 + q) p x) p + bn (decide (v (20 + q) p = nI 10)) = ow v p + bn (decide (x = nI 10)) := by
  unfold ow
  have h := cnt_up (P := fun q' => decide (v (20 + q') p = nI 10)) (Q := fun q' => decide (u_2 v (20 + q) p x (20 + q') p = nI 10)) (k := q) (n := 8) hq (fun i hi hne => by
    have e : u_2 v (20 + q) p x (20 + i) = v (20 + i) := u_ne (by omega)
    simp only [e])
  have e2 : u_2 v (20 + q) p x (20 + q) p = x := u_s
  simp only [e2] at h
  exact h
theorem ow_n {x : Int32} {p' : Nat} (hne : p' ≠ p) : ow (u_2 v (20 + q) p x) p' = ow v p' := by
  unfold ow
  refine cnt_cg (fun i hi => ?_)
  have e : u_2 v (20 + q) p x (20 + i) p' = v (20 + i) p' := u_k hne
  rw [e]
theorem iv_sc (hI : IV v) (hq : q < a_n v) (hp : p < 8) {x : Int32} (hx : x = nM ∨ ∃ j, j ≤ 10 ∧ x = nI j) (ho : ow (u_2 v (20 + q) p x) p ≤ nv v 3 p) : IV (u_2 v (20 + q) p x) := by
  have hq8 : q < 8 := Nat.lt_of_lt_of_le hq hI.in_.2
  have ho2 : ∀ p', p' < 8 → ow (u_2 v (20 + q) p x) p' ≤ nv v 3 p' := fun p' hp' => by
    by_cases z : p' = p
    · rw [z]; exact ho
    · rw [ow_n z]; exact hI.2.2.2.1 p' hp'
  rw [u2_ur] at ho2 ⊢
  refine iv_row hI hq hq8 (fun p' hp' => ?_) (fun k hk => ?_) ho2
  · unfold up1
    split
    · exact hx
    · rcases hI.sc hq8 hp' with z | ⟨z1, z2⟩
      · exact Or.inl z
      · exact Or.inr ⟨_, z2, z1⟩
  · unfold up1
    rw [if_neg (by omega)]
    exact hI.aw.1 _ _ (by omega) hk
theorem iv_ref (hI : IV v) : IV (a_ref v) := iv_free hI (by omega) (by omega)
theorem why_0 (h : a_why v p q = nI 0) : v 9 q = nI 0 ∧ v (20 + q) p = nM ∧ nI 2 ≤ a_tok v p := by
  unfold a_why at h
  split at h
  · rename_i h1
    split at h
    · rename_i h2
      split at h
      · split at h
        · exact absurd h (by decide)
        · split at h
          · split at h
            · rename_i h3
              exact ⟨h1, h2, h3⟩
            · exact absurd h (by decide)
          · exact absurd h (by decide)
      · exact absurd h (by decide)
    · exact absurd h (by decide)
  · exact absurd h (by decide)
theorem iv_take (hI : IV v) (hq : q < a_n v) (hp : p < 8) : IV (a_take v p q).2 := by
  have hq8 : q < 8 := Nat.lt_of_lt_of_le hq hI.in_.2
  unfold a_take
  split
  · rename_i hw
    obtain ⟨h1, h2, h3⟩ := why_0 hw
    have hg := hI.go hp
    have hs := hI.sp hp
    have ho := hI.2.2.2.1 p hp
    rw [hI.tok hp, nI_leI (by omega) (by omega)] at h3
    have e3 : v 3 p + nI 2 = nI (nv v 3 p + 2) := by rw [← nI_add, ← hs.1]
    show IV (u_2 (u_2 v (20 + q) p (nI 10)) 3 p (v 3 p + nI 2))
    rw [u_cm (show 20 + q ≠ 3 by omega), e3]
    have i1 := iv_3 hI hp (y := nv v 3 p + 2) (by omega) (by omega)
    have hn : a_n (u_2 v 3 p (nI (nv v 3 p + 2))) = a_n v := by show (u_2 v 3 p _ 12 0).toNatClampNeg = _; rw [u_ne (by omega)]
    refine iv_sc i1 (by rw [hn]; exact hq) hp (Or.inr ⟨10, Nat.le_refl 10, rfl⟩) ?_
    have e4 : nv (u_2 v 3 p (nI (nv v 3 p + 2))) 3 p = nv v 3 p + 2 := by show (u_2 v 3 p _ 3 p).toNatClampNeg = _; rw [u_s, n_cl (by omega)]
    have e5 := ow_p (v := u_2 v 3 p (nI (nv v 3 p + 2))) (p := p) (x := nI 10) hq8
    have e6 : ow (u_2 v 3 p (nI (nv v 3 p + 2))) p = ow v p := by
      unfold ow
      refine cnt_cg (fun i hi => ?_)
      rw [u_ne (show 20 + i ≠ 3 by omega)]
    have := bn_le (decide (nI 10 = nI 10))
    rw [e4]
    omega
  · exact iv_ref hI
theorem iv_write (hI : IV v) (hq : q < a_n v) (hp : p < 8) {k : Nat} (hk : k ≤ 9) : IV (a_wrv v p q (nI k)) := by
  have hq8 : q < 8 := Nat.lt_of_lt_of_le hq hI.in_.2
  refine iv_sc hI hq hp (Or.inr ⟨k, by omega, rfl⟩) ?_
  have ho := hI.2.2.2.1 p hp
  have e5 := ow_p (v := v) (p := p) (x := nI k) hq8
  have e6 : decide (nI k = nI 10) = false := decide_eq_false (by rw [nI_eq (by omega) (by omega)]; omega)
  rw [e6] at e5
  have e7 : bn false = 0 := rfl
  omega
theorem iv_drop (hI : IV v) (hq : q < a_n v) (hp : p < 8) (hs10 : v (20 + q) p = nI 10) : IV (a_drop v p q) := by
  have hq8 : q < 8 := Nat.lt_of_lt_of_le hq hI.in_.2
  have ho := hI.2.2.2.1 p hp
  have hs := hI.sp hp
  have e5 := ow_p (v := v) (p := p) (x := nM) hq8
  rw [decide_eq_true hs10] at e5
  have e6 : decide (nM = nI 10) = false := by decide
  rw [e6] at e5
  have e7 : bn false = 0 := rfl
  have e8 : bn true = 1 := rfl
  have hg := hI.go hp
  have i1 := iv_sc hI hq hp (x := nM) (Or.inl rfl) (by omega)
  have e3 : v 3 p - nI 1 = nI (nv v 3 p - 1) := by rw [hs.1, pk_sub (by omega)]
  have e9 : nv (u_2 v (20 + q) p nM) 2 p = nv v 2 p := by show (u_2 v (20 + q) p nM 2 p).toNatClampNeg = _; rw [u_ne (by omega)]
  have i2 := iv_3 i1 hp (y := nv v 3 p - 1) (by omega) (by rw [e9]; omega)
  unfold a_drop
  rw [e3]
  exact iv_free i2 (by omega) hp
theorem iv_wk (hI : IV v) : ∀ i, i ≤ 8 → IV (a_wk v i).2
  | 0, _ => hI
  | i + 1, hi => by
    have e : a_wk v (i + 1) = (if (a_wk v i).2 14 0 < v 11 2 then a_wk v i else ((a_wk v i).1 + v 11 2, a_give (a_wk v i).2 i (v 11 2))) := rfl
    have ih := iv_wk hI i (by omega)
    rw [e]
    split
    · exact ih
    · rename_i h
      have h2 := hI.s2
      rw [h2.1]
      rw [h2.1, ih.po.1, nI_ltI (by have := ih.po.2; omega) (by omega)] at h
      exact iv_give ih (by omega) (by omega)
theorem iv_week (hI : IV v) : IV (a_week v).2 := iv_free (iv_wk hI 8 (Nat.le_refl 8)) (by omega) (by omega)
/-! sums and means -/
def ns (r : Nat → Int32) (i : Nat) : Nat := if isS (r i) then (r i).toNatClampNeg else 0
theorem isS_n {a : Int32} (h : isS a = true) : a = nI a.toNatClampNeg ∧ a.toNatClampNeg ≤ 9 := by
  have h2 := isS_iff.mp h
  obtain ⟨j, hj, rfl⟩ := nI_of (x := a) (by rw [i_lt]; have : (0 : Int32).toInt = 0 := (by decide); omega)
  rw [nI_toInt (by omega)] at h2
  rw [n_cl (by omega)]
  exact ⟨rfl, by omega⟩
theorem sum_nI (r : Nat → Int32) : a_sum r = nI (sm (ns r) 8) := by
  have e : ∀ n, fo (fun i m => if isS (r i) then m + r i else m) n (nI 0) = nI (sm (ns r) n) := by
    intro n
    induction n with
    | zero => rfl
    | succ n ih =>
      simp only [fo, sm]
      rw [ih]
      unfold ns
      cases h : isS (r n) with
      | false => rfl
      | true =>
        simp only [↓reduceIte]
        rw [← nI_add, ← (isS_n h).1]
  exact e 8
theorem ns_le (r : Nat → Int32) : ∀ n, sm (ns r) n ≤ 9 * cnt (sc r) n
  | 0 => Nat.le_refl 0
  | n + 1 => by
    have ih := ns_le r n
    simp only [sm, cnt]
    unfold ns sc at *
    cases h : isS (r n) with
    | false =>
      have e7 : bn false = 0 := rfl
      simp only [Bool.false_eq_true, ↓reduceIte]
      rw [e7]
      omega
    | true =>
      have := (isS_n h).2
      have e8 : bn true = 1 := rfl
      simp only [↓reduceIte]
      rw [e8]
      omega
theorem mean_nI (r : Nat → Int32) (h : ¬ a_bc (a_wri r) = nI 0) : ∃ k, k ≤ 9 ∧ a_sum r / a_bc (a_wri r) = nI k := by
  have hc := cnt_le (sc r) 8
  rw [wri_bc] at h ⊢
  have hpos : 0 < cnt (sc r) 8 := by
    rcases Nat.eq_zero_or_pos (cnt (sc r) 8) with g | g
    · rw [g] at h; exact absurd rfl h
    · exact g
  have hle := ns_le r 8
  rw [sum_nI, pk_div (by omega) hpos (by omega)]
  refine ⟨_, ?_, rfl⟩
  rw [Nat.div_le_iff_le_mul_add_pred hpos, Nat.mul_comm]
  omega
theorem mv_ok {mm x : Int32} {k : Nat} (hk : k ≤ 9) (hm : mm = nI k) : (isS x = true → isS (a_mv mm x) = true) ∧ (isS x = false → a_mv mm x = x) := by
  refine ⟨fun h => ?_, fun h => ?_⟩
  · obtain ⟨e1, e2⟩ := isS_n h
    generalize x.toNatClampNeg = j at e1 e2
    subst e1
    subst hm
    unfold a_mv
    rw [if_pos h]
    split
    · exact h
    · rename_i hne
      rw [nI_eq (by omega) (by omega)] at hne
      split
      · rename_i hle
        rw [nI_leI (by omega) (by omega)] at hle
        have := (sc_no j (by omega)).2.2
        rw [← this, pk_sub (by omega), isS_nI (by omega)]
        exact decide_eq_true (by omega)
      · rename_i hle
        rw [nI_leI (by omega) (by omega)] at hle
        rw [nI_add, isS_nI (by omega)]
        exact decide_eq_true (by omega)
  · unfold a_mv
    rw [h]
    rfl
theorem ow_row {g : Nat → Int32} (hq : q < 8) (hp : p < 8) (h : g p = nI 10 ↔ v (20 + q) p = nI 10) : ow (u_r v (20 + q) g) p = ow v p := by
  unfold ow
  refine cnt_cg (fun i hi => ?_)
  by_cases e : i = q
  · subst e
    rw [ur_s]
    by_cases z : v (20 + i) p = nI 10
    · rw [decide_eq_true z, decide_eq_true (h.mpr z)]
    · rw [decide_eq_false z, decide_eq_false (fun y => z (h.mp y))]
  · rw [ur_ne (show 20 + i ≠ 20 + q by omega)]
theorem isS_10 : isS (nI 10) = false := by decide
/-- a row where scores stay scores, and all else stays as it is -/
theorem iv_row2 (hI : IV v) (hq : q < a_n v) {g : Nat → Int32} (h1 : ∀ p, p < 8 → isS (v (20 + q) p) = true → isS (g p) = true) (h2 : ∀ p, isS (v (20 + q) p) = false ∨ 8 ≤ p → g p = v (20 + q) p) : IV (u_r v (20 + q) g) := by
  have hq8 : q < 8 := Nat.lt_of_lt_of_le hq hI.in_.2
  refine iv_row hI hq hq8 (fun p hp => ?_) (fun k hk => ?_) (fun p hp => ?_)
  · cases hs : isS (v (20 + q) p) with
    | true =>
      have := isS_n (h1 p hp hs)
      exact Or.inr ⟨_, by omega, this.1⟩
    | false =>
      rw [h2 p (Or.inl hs)]
      rcases hI.sc hq8 hp with z | ⟨z1, z2⟩
      · exact Or.inl z
      · exact Or.inr ⟨_, z2, z1⟩
  · rw [h2 k (Or.inr hk)]; exact hI.aw.1 _ _ (by omega) hk
  · rw [ow_row hq8 hp]
    · exact hI.2.2.2.1 p hp
    · cases hs : isS (v (20 + q) p) with
      | true =>
        have e1 := h1 p hp hs
        constructor
        · intro z; rw [z, isS_10] at e1; cases e1
        · intro z; rw [z, isS_10] at hs; cases hs
      | false => rw [h2 p (Or.inl hs)]
theorem bnr_ok (r : Nat → Int32) : (∀ p, p < 8 → isS (r p) = true → isS (a_bnr r p) = true) ∧ (∀ p, isS (r p) = false ∨ 8 ≤ p → a_bnr r p = r p) := by
  unfold a_bnr
  split
  · exact ⟨fun p _ h => h, fun p _ => rfl⟩
  · rename_i h0
    obtain ⟨k, hk, hm⟩ := mean_nI r h0
    refine ⟨fun p hp h => ?_, fun p h => ?_⟩
    · show isS (if p < 8 then _ else _) = true
      rw [if_pos hp]
      exact (mv_ok hk hm).1 h
    · show (if p < 8 then _ else _) = _
      split
      · rcases h with h | h
        · exact (mv_ok hk hm).2 h
        · omega
      · rfl
theorem any_no {P : Nat → Bool} (h : a_any P 0 = false) {p : Nat} (hp : p < 8) : P p = false := by
  unfold a_any at h
  rw [List.any_eq_false] at h
  have := h p (List.mem_range'_1.mpr ⟨by omega, by omega⟩)
  exact Bool.eq_false_iff.mpr this
theorem pay_3 (w : Int32) (v : AS) : ∀ i p, i ≤ p → a_pay w v i 3 p = v 3 p
  | 0, _, _ => rfl
  | i + 1, p, h => by
    have e : a_pay w v (i + 1) = (if hb w (nI i) then u_2 (a_pay w v i) 3 i (a_pay w v i 3 i + nI 1) else a_pay w v i) := rfl
    rw [e]
    split
    · rw [u_k (by omega)]; exact pay_3 w v i p (by omega)
    · exact pay_3 w v i p (by omega)
theorem iv_pay (hI : IV v) {w : Int32} (h : ∀ p, p < 8 → hb w (nI p) = true → nv v 3 p + 1 ≤ nv v 2 p) : ∀ i, i ≤ 8 → IV (a_pay w v i)
  | 0, _ => hI
  | i + 1, hi => by
    have e : a_pay w v (i + 1) = (if hb w (nI i) then u_2 (a_pay w v i) 3 i (a_pay w v i 3 i + nI 1) else a_pay w v i) := rfl
    have ih := iv_pay hI h i (by omega)
    rw [e]
    split
    · rename_i hb1
      have h1 := h i (by omega) hb1
      have e3 : a_pay w v i 3 i = v 3 i := pay_3 w v i i (Nat.le_refl i)
      have en : nv (a_pay w v i) 3 i = nv v 3 i := by show (a_pay w v i 3 i).toNatClampNeg = _; rw [e3]
      have e2 : nv (a_pay w v i) 2 i = nv v 2 i := by show (a_pay w v i 2 i).toNatClampNeg = _; rw [pay_ne w v i 2 (by omega)]
      have e4 : a_pay w v i 3 i + nI 1 = nI (nv v 3 i + 1) := by rw [← nI_add, e3, ← (hI.sp (show i < 8 by omega)).1]
      have ho := ih.2.2.2.1 i (by omega)
      rw [e4]
      exact iv_3 ih (by omega) (by omega) (by omega)
    · exact ih
theorem iv_disc (hI : IV v) (hq : q < a_n v) : IV (a_disc v q).2 := by
  have hq8 : q < 8 := Nat.lt_of_lt_of_le hq hI.in_.2
  unfold a_disc
  split
  · rename_i hw
    have hp : a_any (a_poor v (a_wri (v (20 + q)))) 0 = false := by
      cases z : a_any (a_poor v (a_wri (v (20 + q)))) 0 with
      | false => rfl
      | true =>
        unfold a_wd at hw
        rw [z] at hw
        split at hw
        · split at hw <;> (revert hw; decide)
        · revert hw; decide
    have i1 := iv_pay hI (w := a_wri (v (20 + q))) (fun p hp1 hb1 => by
      have := any_no hp hp1
      unfold a_poor at this
      rw [hb1, Bool.true_and, decide_eq_false_iff_not, hI.tok hp1, nI_ltI (by have := hI.go hp1; omega) (by omega)] at this
      have := hI.sp hp1
      omega) 8 (Nat.le_refl 8)
    have en : a_n (a_pay (a_wri (v (20 + q))) v 8) = a_n v := by show (a_pay _ v 8 12 0).toNatClampNeg = _; rw [pay_ne _ _ _ _ (by omega)]
    have i2 : IV (a_dv v q) := iv_7 i1 (by rw [en]; exact hq) hq8
    have en2 : a_n (a_dv v q) = a_n v := by
      rw [← en]
      show Int32.toNatClampNeg (u_2 _ 7 q _ 12 0) = _
      rw [u_ne (by omega)]
    obtain ⟨b1, b2⟩ := bnr_ok (a_dv v q (20 + q))
    exact iv_row2 i2 (by rw [en2]; exact hq) b1 b2
  · exact iv_ref hI
theorem iv_cr (hI : IV v) (w : Int32) : ∀ i, i ≤ 8 → IV (a_cr w v i).2
  | 0, _ => hI
  | i + 1, hi => by
    have e : a_cr w v (i + 1) = (if hb w (nI i) then (if (a_cr w v i).2 14 0 ≤ nI 0 then a_cr w v i else ((a_cr w v i).1 + nI 1, a_give (a_cr w v i).2 i (nI 1))) else a_cr w v i) := rfl
    have ih := iv_cr hI w i (by omega)
    rw [e]
    split
    · split
      · exact ih
      · rename_i h
        rw [ih.po.1, nI_leI (by have := ih.po.2; omega) (by omega)] at h
        exact iv_give ih (by omega) (by omega)
    · exact ih
theorem rl_ok (r : Nat → Int32) {gain : Nat} (hg : gain ≤ 3) : (∀ p, p < 8 → isS (r p) = true → isS (a_rl r (nI gain) p) = true) ∧ (∀ p, isS (r p) = false ∨ 8 ≤ p → a_rl r (nI gain) p = r p) := by
  unfold a_rl
  rcases lw_in r 8 (Nat.le_refl 8) with ⟨h1, h2⟩ | ⟨j, h1, h2, h3, h4, h5⟩
  · rw [h1]
    exact ⟨fun p _ h => h, fun p _ => rfl⟩
  · rw [h2]
    have hne : ¬ nI j = nM := nM_ne (by omega)
    simp (disch := omega) only [hne, ↓reduceIte, n_cl]
    obtain ⟨e1, e2⟩ := isS_n h3
    have hx : isS (mmin (nI 9) (r j + nI gain)) = true := by
      rw [e1, nI_add]
      unfold mmin
      split
      · rename_i z
        rw [nI_ltI (by omega) (by omega)] at z
        rw [isS_nI (by omega)]
        exact decide_eq_true (by omega)
      · decide
    refine ⟨fun p hp h => ?_, fun p h => ?_⟩
    · unfold up1
      split
      · exact hx
      · exact h
    · unfold up1
      rw [if_neg]
      rintro rfl
      rcases h with h | h
      · rw [h3] at h; cases h
      · omega
theorem iv_reb (hI : IV v) (hq : q < a_n v) : IV (a_reb v q).2 := by
  have hq8 : q < 8 := Nat.lt_of_lt_of_le hq hI.in_.2
  unfold a_reb
  split
  · have h3 := hI.s3
    obtain ⟨b1, b2⟩ := rl_ok (v (20 + q)) h3.2
    rw [← h3.1] at b1 b2
    have i1 := iv_row2 hI hq b1 b2
    have en : a_n (u_r v (20 + q) (a_rl (v (20 + q)) (v 11 3))) = a_n v := by show (u_r v (20 + q) _ 12 0).toNatClampNeg = _; rw [ur_ne (by omega)]
    exact iv_cr (iv_8 i1 (by rw [en]; exact hq) hq8) _ 8 (Nat.le_refl 8)
  · exact iv_ref hI
end KP
