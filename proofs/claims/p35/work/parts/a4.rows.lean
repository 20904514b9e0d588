/-! THE LAW'S HELPERS, and what the class answers them -/
def a_up (i n : Int32) : Int32 := (i &&& 2147483647) - (i &&& 2147483647) / n * n
theorem up_n (i : Int32) {n : Nat} (h0 : 0 < n) (hn : n < 1000) : ∃ k, k < n ∧ a_up i (nI n) = nI k := by
  have e := pk_and i (m := 2147483647) 31 (by decide)
  unfold a_up
  rw [e, pk_rem (Nat.mod_lt _ (by decide)) h0 (by omega)]
  exact ⟨_, Nat.mod_lt _ h0, rfl⟩
theorem p_up (i : Int32) {n : Nat} (S : PH) (h0 : 0 < n) (hn : n < 1000) : m_L_up i (nI n) S = some (a_up i (nI n), S) := by
  unfold m_L_up
  exact ck_d (show ¬ nI n = 0 from nI_nz h0 (by omega))
theorem p_bits (i : Int32) (S : PH) : m_L_bits i S = some (a_ones i, S) := by
  unfold m_L_bits
  refine lpF 8 (fun k => (fo (fun k n => n + ((i >>> (nI k &&& nI 31)) &&& nI 1)) k (nI 0), nI k, S)) _ rfl (fun k hk => ?_) ?_
  · simp (disch := omega) only [st_L_bits_4, z_0, z_1, z_2, z_3, z_4, z_5, z_6, z_7, z_8, z_9, z_10, z_12, z_13, z_15, z_17, z_20, z_25, z_31, z_33, z_41, z_49, z_57, z_60, z_72, z_100, z_161, z_255, z_256, z_999, z_9999, of_n, nI_add, pk_mul, n_le, n_lt, n_eq, n_cl, ck_n, ck_d, ck_tr, le_t, bd_t, ir_t, bt_r, bt_l, b_t, b_f, b_lt, b_lf, b_ef, z_m1, b_i0, b_i1, z_not, z_ps, f_mb, f_rf, ↓reduceIte, Nat.zero_add, Nat.add_zero, Nat.one_mul, Nat.mul_one, Nat.zero_mul, Nat.mul_zero, not_true_eq_false, not_false_eq_true, fo]
  · simp (disch := omega) only [st_L_bits_4, z_0, z_1, z_2, z_3, z_4, z_5, z_6, z_7, z_8, z_9, z_10, z_12, z_13, z_15, z_17, z_20, z_25, z_31, z_33, z_41, z_49, z_57, z_60, z_72, z_100, z_161, z_255, z_256, z_999, z_9999, of_n, nI_add, pk_mul, n_le, n_lt, n_eq, n_cl, ck_n, ck_d, ck_tr, le_t, bd_t, ir_t, bt_r, bt_l, b_t, b_f, b_lt, b_lf, b_ef, z_m1, b_i0, b_i1, z_not, z_ps, f_mb, f_rf, ↓reduceIte, Nat.zero_add, Nat.add_zero, Nat.one_mul, Nat.mul_one, Nat.zero_mul, Nat.mul_zero, not_true_eq_false, not_false_eq_true]
    rfl
theorem p_cell (xs : Nat → Int32) (L : Nat) (hL : L ≤ 260) {k : Nat} (hk : k < 1000) : ∃ c, ∀ S, m_L_cell xs L (nI k) S = some (c, S) := by
  unfold m_L_cell
  by_cases h : Int32.ofNat L ≤ nI k
  · exact ⟨_, fun S => if_pos h⟩
  · have h2 : k < L := by
      rw [of_n, nI_leI (by omega) (by omega)] at h
      omega
    exact ⟨_, fun S => (if_neg h).trans (ck_n h2 (by omega))⟩
theorem an_e {v : AS} {n : Nat} (hn : v 12 0 = nI n) (h8 : n ≤ 8) : a_n v = n := by
  show (v 12 0).toNatClampNeg = n
  rw [hn, n_cl (by omega)]
section GR
variable {S : PH} {G : Nat → Nat} {x nw : Nat} {v : AS} {hs : List AS} {nx : Nat} {sl : Nat → Option AS} {tn : Nat} {tx : Nat → Int32} {p q w n : Nat}
theorem g_cnt (h : RelC S G x nw v hs nx sl tn tx) (hw : w < 12) : m_X4_count (some x) (nI w) S = some (.inr (a_num v (nI hs.length) w), S) := by
  rw [k_cnt h.rc h.rv h.hn.2.2.1]
  unfold f_cnt
  rw [if_pos (in_nI (by omega) (by omega) (by omega)), n_cl (by omega)]
theorem g_cnt0 (h : RelC S G x nw v hs nx sl tn tx) : m_X4_count (some x) (nI 0) S = some (.inr (v 12 0), S) := g_cnt h (w := 0) (by omega)
theorem g_cnt11 (h : RelC S G x nw v hs nx sl tn tx) : m_X4_count (some x) (nI 11) S = some (.inr (nI hs.length), S) := g_cnt h (w := 11) (by omega)
theorem g_per (h : RelC S G x nw v hs nx sl tn tx) (hI : IV v) (hp : p < 8) (hw : w < 9) : m_X4_personOf (some x) (nI p) (nI w) S = some (.inr (a_per v p w), S) := by
  rw [k_per h.rc h.rv hI]
  unfold f_per
  rw [if_pos (in_nI (by omega) (by omega) (by omega)), if_pos (in_nI (by omega) (by omega) (by omega)), n_cl (by omega), n_cl (by omega)]
theorem isP_n2 (hI : IV v) (hn : v 12 0 = nI n) (h8 : n ≤ 8) (hq : q < n) : a_isP v (nI q) = true := isP_t hI (by rw [an_e hn h8]; exact hq)
theorem g_pap (h : RelC S G x nw v hs nx sl tn tx) (hI : IV v) (hn : v 12 0 = nI n) (h8 : n ≤ 8) (hq : q < n) (hw : w < 10) : m_X4_paperOf (some x) (nI q) (nI w) S = some (.inr (a_pap v q w), S) := by
  rw [k_pap h.rc h.rv hI]
  unfold f_pap
  rw [if_pos (isP_n2 hI hn h8 hq), if_pos (in_nI (by omega) (by omega) (by omega)), n_cl (by omega), n_cl (by omega)]
theorem g_sco (h : RelC S G x nw v hs nx sl tn tx) (hI : IV v) (hn : v 12 0 = nI n) (h8 : n ≤ 8) (hp : p < 8) (hq : q < n) : m_X4_score (some x) (nI p) (nI q) S = some (.inr (v (20 + q) p), S) := by
  rw [k_sco h.rc h.rv hI]
  unfold f_sco
  rw [if_pos (in_nI (by omega) (by omega) (by omega)), if_pos (isP_n2 hI hn h8 hq), n_cl (by omega), n_cl (by omega)]
theorem g_set (h : RelC S G x nw v hs nx sl tn tx) (hw : w < 4) : m_X4_setting (some x) (nI w) S = some (.inr (v 11 w), S) := by
  rw [k_set1 h.rc h.rv]
  unfold f_set1
  rw [if_pos (in_nI (by omega) (by omega) (by omega)), n_cl (by omega)]
theorem g_why (h : RelC S G x nw v hs nx sl tn tx) (hI : IV v) (hn : v 12 0 = nI n) (h8 : n ≤ 8) (hp : p < 8) (hq : q < n) : m_X4_whyNot (some x) (nI p) (nI q) S = some (.inr (a_why v p q), S) := by
  rw [k_why h.rc h.rv hI]
  unfold f_why
  rw [if_pos (in_nI (by omega) (by omega) (by omega)), if_pos (isP_n2 hI hn h8 hq), n_cl (by omega), n_cl (by omega)]
theorem g_best (h : RelC S G x nw v hs nx sl tn tx) (hI : IV v) (hn : v 12 0 = nI n) (h8 : n ≤ 8) (hq : q < n) : m_X4_bestReviewer (some x) (nI q) S = some (.inr (a_best v q), S) := by
  rw [k_best h.rc h.rv hI]
  unfold f_best
  rw [if_pos (isP_n2 hI hn h8 hq), n_cl (by omega)]
theorem g_mean (h : RelC S G x nw v hs nx sl tn tx) (hI : IV v) (hn : v 12 0 = nI n) (h8 : n ≤ 8) (hq : q < n) : m_X4_meanScore (some x) (nI q) S = some (.inr (a_mean (v (20 + q))), S) := by
  rw [k_mean h hI]
  unfold f_mean
  rw [if_pos (isP_n2 hI hn h8 hq), n_cl (by omega)]
theorem g_rd (h : RelC S G x nw v hs nx sl tn tx) (hI : IV v) (hn : v 12 0 = nI n) (h8 : n ≤ 8) (hq : q < n) : ∃ S', m_X4_roundsToAgree (some x) (nI q) S = some (.inr (a_rd (v (20 + q)) (20 + 1) 0).1, S') ∧ RelC S' G x nw v hs nx sl tn tx := by
  obtain ⟨S', h1, h2, _⟩ := k_rd h hI (nI q)
  refine ⟨S', h1.trans ?_, h2⟩
  unfold f_rd
  rw [if_pos (isP_n2 hI hn h8 hq), n_cl (by omega)]
theorem g_most (h : RelC S G x nw v hs nx sl tn tx) (hI : IV v) (hw : w < 2) : ∃ S', m_X4_most (some x) (nI w) S = some (.inr (nI (m_v v nM)), S') ∧ RelC S' G x nw v hs nx sl tn tx := by
  obtain ⟨S', h1, h2, _⟩ := k_most h hI (nI w)
  refine ⟨S', h1.trans ?_, h2⟩
  unfold f_most
  rw [if_pos (in_nI (by omega) (by omega) (by omega))]
theorem num_hl (v : AS) (hl : Int32) : ∀ w, w < 11 → a_num v hl w = a_num v (nI 0) w
  | 0, _ => rfl
  | 1, _ => rfl
  | 2, _ => rfl
  | 3, _ => rfl
  | 4, _ => rfl
  | 5, _ => rfl
  | 6, _ => rfl
  | 7, _ => rfl
  | 8, _ => rfl
  | 9, _ => rfl
  | 10, _ => rfl
  | w + 11, h => by omega
end GR
