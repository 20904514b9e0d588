/-! THE REFERENCE: whole chunks -/
section CP
variable {S : PH} {G : Nat → Nat} {m : Nat} {u : AS}
/-- k places of chunk c written to chunk d -/
def cpk (u : AS) (c d k : Nat) : AS := u_r u 1 (fun i => if 161 * d ≤ i ∧ i < 161 * d + k then u 1 (161 * c + (i - 161 * d)) else u 1 i)
theorem cpk_ne {c d k f : Nat} (hf : f ≠ 1) : cpk u c d k f = u f := ur_o hf
theorem cpk_1 {c d k : Nat} : cpk u c d k 1 = fun i => if 161 * d ≤ i ∧ i < 161 * d + k then u 1 (161 * c + (i - 161 * d)) else u 1 i := ur_s
theorem cpk_0 {c d : Nat} : cpk u c d 0 = u := by
  funext f
  by_cases hf : f = 1
  · subst hf
    rw [cpk_1]
    funext i
    rw [if_neg (by omega)]
  · exact cpk_ne hf
theorem cpk_s {c d k : Nat} (hne : c ≠ d) (hk : k < 161) : u_2 (cpk u c d k) 1 (161 * d + k) (cpk u c d k 1 (161 * c + k)) = cpk u c d (k + 1) := by
  have e : cpk u c d k 1 (161 * c + k) = u 1 (161 * c + k) := by
    rw [cpk_1]
    show (if 161 * d ≤ 161 * c + k ∧ 161 * c + k < 161 * d + k then _ else _) = _
    rw [if_neg (by omega)]
  rw [e]
  funext f i
  by_cases hf : f = 1
  · subst hf
    unfold u_2
    rw [cpk_1, cpk_1]
    by_cases hi : i = 161 * d + k
    · rw [if_pos ⟨rfl, hi⟩]
      show _ = (if 161 * d ≤ i ∧ i < 161 * d + (k + 1) then _ else _)
      rw [if_pos (by omega), hi]
      congr 1
      omega
    · rw [if_neg (fun z => hi z.2)]
      show (if 161 * d ≤ i ∧ i < 161 * d + k then _ else _) = (if 161 * d ≤ i ∧ i < 161 * d + (k + 1) then _ else _)
      by_cases h2 : 161 * d ≤ i ∧ i < 161 * d + k
      · rw [if_pos h2, if_pos (by omega)]
      · rw [if_neg h2, if_neg (by omega)]
  · unfold u_2
    rw [if_neg (fun z => hf z.1), cpk_ne hf, cpk_ne hf]
theorem o_copies (hg : Gi G) (h : RM S G m) {c d : Nat} (hc : c ≤ 8) (hd : d ≤ 8) (hne : c ≠ d) : m_X5_copies (some m) (nI c) (nI d) (mput S G u) = some ((), mput S G (cpk u c d 161)) := by
  unfold m_X5_copies
  refine lpF 161 (fun k => (nI k, mput S G (cpk u c d k))) _ (by show _ = (nI 0, mput S G (cpk u c d 0)); rw [cpk_0]; rfl) (fun k hk => ?_) ?_
  · have e := cpk_s (u := u) hne hk
    simp (disch := omega) only [st_X5_copies_2, dr_mp, N_mp, R_mp, rf_mp, h.mm, h.s, h.ns, mg_1 h, ms_1 hg h, e, z_0, z_1, z_2, z_3, z_4, z_5, z_6, z_7, z_8, z_9, z_10, z_12, z_13, z_15, z_17, z_20, z_25, z_31, z_33, z_41, z_49, z_57, z_60, z_72, z_100, z_161, z_255, z_256, z_999, z_9999, of_n, nI_add, pk_mul, n_le, n_lt, n_eq, n_cl, ck_n, ck_d, ck_tr, le_t, bd_t, ir_t, bt_r, bt_l, b_t, b_f, b_lt, b_lf, b_ef, z_m1, b_i0, b_i1, z_not, z_ps, f_mb, f_rf, ↓reduceIte, Nat.zero_add, Nat.add_zero, Nat.one_mul, Nat.mul_one, Nat.zero_mul, Nat.mul_zero, not_true_eq_false, not_false_eq_true]
  · simp (disch := omega) only [st_X5_copies_2, z_0, z_1, z_2, z_3, z_4, z_5, z_6, z_7, z_8, z_9, z_10, z_12, z_13, z_15, z_17, z_20, z_25, z_31, z_33, z_41, z_49, z_57, z_60, z_72, z_100, z_161, z_255, z_256, z_999, z_9999, of_n, nI_add, pk_mul, n_le, n_lt, n_eq, n_cl, ck_n, ck_d, ck_tr, le_t, bd_t, ir_t, bt_r, bt_l, b_t, b_f, b_lt, b_lf, b_ef, z_m1, b_i0, b_i1, z_not, z_ps, f_mb, f_rf, ↓reduceIte, Nat.zero_add, Nat.add_zero, Nat.one_mul, Nat.mul_one, Nat.zero_mul, Nat.mul_zero, not_true_eq_false, not_false_eq_true]
/-- what a chunk holds after the copying -/
theorem cpk_cr {c d n : Nat} {v : AS} (hn : n ≤ 8) (h : cr (u 1) c n v) : cr (cpk u c d 161 1) d n v := by
  intro f p hv
  have := lo_lt hn hv
  rw [cpk_1]
  show (if 161 * d ≤ 161 * d + lo f p ∧ 161 * d + lo f p < 161 * d + 161 then _ else _) = _
  rw [if_pos (by omega), show 161 * c + (161 * d + lo f p - 161 * d) = 161 * c + lo f p by omega]
  exact h f p hv
theorem cpk_co {c d e n : Nat} {v : AS} (hn : n ≤ 8) (hne : e ≠ d) (h : cr (u 1) e n v) : cr (cpk u c d 161 1) e n v := by
  intro f p hv
  have := lo_lt hn hv
  rw [cpk_1]
  show (if 161 * d ≤ 161 * e + lo f p ∧ 161 * e + lo f p < 161 * d + 161 then _ else _) = _
  rw [if_neg (by omega)]
  exact h f p hv
end CP
