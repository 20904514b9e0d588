/-! THE REFERENCE: saving -/
section SM
variable {S : PH} {G : Nat → Nat} {m : Nat} {u v : AS} {hs : List AS} {sl : Nat → Option AS} {tn : Nat} {tx : Nat → Int32}
/-- what the reference's numbers tell: now v, saved states hs, snapshots sl, text -/
def MU (u v : AS) (hs : List AS) (sl : Nat → Option AS) (tn : Nat) (tx : Nat → Int32) : Prop := cr (u 1) 0 (a_n v) v ∧ (u 2 0 = nI hs.length ∧ hs.length ≤ 6) ∧ (∀ i w, hs[i]? = some w → a_n w ≤ 8 ∧ cr (u 1) (hs.length - i) (a_n w) w) ∧ (∀ i, i < 2 → (sl i = none → u 3 i = nI 0) ∧ ∀ w, sl i = some w → u 3 i = nI 1 ∧ a_n w ≤ 8 ∧ cr (u 1) (7 + i) (a_n w) w) ∧ (u 5 0 = nI tn ∧ tn ≤ 60 ∧ u 4 = tx)
/-- the chunks moved down by one -/
def uk (u : AS) : Nat → AS
  | 0 => u
  | i + 1 => cpk (uk u i) (i + 2) (i + 1) 161
theorem uk_ne {f : Nat} (hf : f ≠ 1) : ∀ i, uk u i f = u f
  | 0 => rfl
  | i + 1 => (cpk_ne hf).trans (uk_ne hf i)
theorem uk_cr {n : Nat} {w : AS} (hn : n ≤ 8) : ∀ i, (∀ e, (e = 0 ∨ i < e) → cr (u 1) e n w → cr (uk u i 1) e n w) ∧ (∀ e, 1 ≤ e → e ≤ i → cr (u 1) (e + 1) n w → cr (uk u i 1) e n w)
  | 0 => ⟨fun _ _ h => h, fun e h1 h2 _ => by omega⟩
  | i + 1 => by
    obtain ⟨h1, h2⟩ := uk_cr hn i
    refine ⟨fun e he hc => cpk_co hn (by omega) (h1 e (by omega) hc), fun e h3 h4 hc => ?_⟩
    by_cases z : e = i + 1
    · subst z
      exact cpk_cr hn (h1 (i + 2) (by omega) hc)
    · exact cpk_co hn z (h2 e h3 (by omega) hc)
theorem o_save31 (hg : Gi G) (h : RM S G m) {l d : Nat} (hl : u 2 0 = nI l) (hd : (l < 6 ∧ d = l + 1) ∨ (l = 6 ∧ d = 6)) : j_X5_save_31 (some m) (mput S G u) = some ((), mput S G (cpk (u_2 u 2 0 (nI d)) 0 d 161)) := by
  have i2 := ms_i hg h (u := u) 2 (by omega) (w := nI d)
  have g2 : p_I (mput S G u) m 2 = nI l := (mg_i h 2 (by omega)).trans hl
  have g3 : p_I (mput S G (u_2 u 2 0 (nI d))) m 2 = nI d := (mg_i h 2 (by omega)).trans u_s
  have e := o_copies (u := u_2 u 2 0 (nI d)) hg h (c := 0) (d := d) (by omega) (by omega) (by omega)
  unfold j_X5_save_31
  rw [dr_mp, h.mm, g2]
  have e1 : nI l + 1 = nI (l + 1) := nI_add l 1
  have e0 : nI l + 0 = nI (l + 0) := nI_add l 0
  rcases hd with ⟨h1, h2⟩ | ⟨h1, h2⟩
  · rw [if_neg (show ¬ (6 : Int32) ≤ nI l from fun z => by have := (nI_leI (show 6 < 2147483648 by omega) (show l < 2147483648 by omega)).mp z; omega)]
    unfold j_X5_save_50
    rw [dr_mp, h.mm, le_t, e1, ← h2, i2, dr_mp, h.mm, g3]
    show bd (m_X5_copies (some m) (nI 0) (nI d) _) _ = _
    rw [e, bd_t]
  · rw [if_pos (show (6 : Int32) ≤ nI l from nI_le (a := 6) (by omega) (by omega))]
    unfold j_X5_save_50
    rw [dr_mp, h.mm, le_t, e0, show l + 0 = d by omega, i2, dr_mp, h.mm, g3]
    show bd (m_X5_copies (some m) (nI 0) (nI d) _) _ = _
    rw [e, bd_t]
theorem o_save (hg : Gi G) (h : RM S G m) (hn : a_n v ≤ 8) (hu : MU u v hs sl tn tx) : ∃ u', m_X5_save (some m) (mput S G u) = some ((), mput S G u') ∧ MU u' v ((v :: hs).take 6) sl tn tx ∧ ∀ f, f ≠ 1 → f ≠ 2 → u' f = u f := by
  obtain ⟨h1, ⟨h2, h2b⟩, h3, h4, h5⟩ := hu
  have g2 : ∀ u : AS, p_I (mput S G u) m 2 = u 2 0 := fun u => mg_i h 2 (by omega)
  by_cases hl : hs.length = 6
  · refine ⟨cpk (u_2 (uk u 5) 2 0 (nI 6)) 0 6 161, ?_, ?_, fun f hf1 hf2 => ?_⟩
    · unfold m_X5_save
      refine lpF 5 (fun i => (nI (i + 1), mput S G (uk u i))) _ rfl (fun i hi => ?_) ?_
      · have e := o_copies (u := uk u i) hg h (c := i + 2) (d := i + 1) (by omega) (by omega) (by omega)
        have e2 : uk u i 2 0 = nI 6 := by rw [uk_ne (by omega), h2, hl]
        simp (disch := omega) only [st_X5_save_2, dr_mp, h.mm, g2, e2, z_0, z_1, z_2, z_3, z_4, z_5, z_6, z_7, z_8, z_9, z_10, z_12, z_13, z_15, z_17, z_20, z_25, z_31, z_33, z_41, z_49, z_57, z_60, z_72, z_100, z_161, z_255, z_256, z_999, z_9999, of_n, nI_add, pk_mul, n_le, n_lt, n_eq, n_cl, ck_n, ck_d, ck_tr, le_t, bd_t, ir_t, bt_r, bt_l, b_t, b_f, b_lt, b_lf, b_ef, z_m1, b_i0, b_i1, z_not, z_ps, f_mb, f_rf, ↓reduceIte, Nat.zero_add, Nat.add_zero, Nat.one_mul, Nat.mul_one, Nat.zero_mul, Nat.mul_zero, not_true_eq_false, not_false_eq_true, e]
        rfl
      · have e := o_save31 (u := uk u 5) hg h (l := 6) (d := 6) (by rw [uk_ne (by omega), h2, hl]) (by omega)
        simp (disch := omega) only [st_X5_save_2, z_0, z_1, z_2, z_3, z_4, z_5, z_6, z_7, z_8, z_9, z_10, z_12, z_13, z_15, z_17, z_20, z_25, z_31, z_33, z_41, z_49, z_57, z_60, z_72, z_100, z_161, z_255, z_256, z_999, z_9999, of_n, nI_add, pk_mul, n_le, n_lt, n_eq, n_cl, ck_n, ck_d, ck_tr, le_t, bd_t, ir_t, bt_r, bt_l, b_t, b_f, b_lt, b_lf, b_ef, z_m1, b_i0, b_i1, z_not, z_ps, f_mb, f_rf, ↓reduceIte, Nat.zero_add, Nat.add_zero, Nat.one_mul, Nat.mul_one, Nat.zero_mul, Nat.mul_zero, not_true_eq_false, not_false_eq_true, e]
    · have U1 : u_2 (uk u 5) 2 0 (nI 6) 1 = uk u 5 1 := u_ne (by omega)
      have ht : ((v :: hs).take 6).length = 6 := by rw [List.length_take, List.length_cons]; omega
      have co : ∀ e n w, n ≤ 8 → e ≠ 6 → cr (uk u 5 1) e n w → cr (cpk (u_2 (uk u 5) 2 0 (nI 6)) 0 6 161 1) e n w := fun e n w h8 he hc => cpk_co h8 he (by rw [U1]; exact hc)
      have c0 := (uk_cr (u := u) (w := v) hn 5).1 0 (Or.inl rfl) h1
      refine ⟨co 0 _ _ hn (by omega) c0, ⟨by rw [cpk_ne (by omega), u_s, ht], by rw [ht]; omega⟩, fun i w hw => ?_, fun i hi => ⟨fun hz => ?_, fun w hw => ?_⟩, ?_⟩
      · rw [ht]
        cases i with
        | zero =>
          have e : v = w := by
            have : some v = some w := by rw [← hw]; rfl
            exact Option.some.inj this
          subst e
          exact ⟨hn, cpk_cr hn (by rw [U1]; exact c0)⟩
        | succ j =>
          have hj : j + 1 < 6 := by
            have := (List.getElem?_eq_some_iff.mp hw).1
            rw [ht] at this
            omega
          rw [List.getElem?_take_of_lt hj, List.getElem?_cons_succ] at hw
          have k := h3 j w hw
          rw [hl] at k
          have c := (uk_cr (u := u) (w := w) k.1 5).2 (6 - (j + 1)) (by omega) (by omega) (by rw [show 6 - (j + 1) + 1 = 6 - j by omega]; exact k.2)
          exact ⟨k.1, co _ _ _ k.1 (by omega) c⟩
      · rw [cpk_ne (by omega), u_ne (by omega), uk_ne (by omega)]
        exact (h4 i hi).1 hz
      · obtain ⟨k1, k2, k3⟩ := (h4 i hi).2 w hw
        rw [cpk_ne (by omega), u_ne (by omega), uk_ne (by omega)]
        exact ⟨k1, k2, co _ _ _ k2 (by omega) ((uk_cr (u := u) (w := w) k2 5).1 (7 + i) (by omega) k3)⟩
      · rw [cpk_ne (by omega), cpk_ne (by omega), u_ne (by omega), u_ne (by omega), uk_ne (by omega), uk_ne (by omega)]
        exact h5
    · rw [cpk_ne hf1, u_ne hf2, uk_ne hf1]
  · refine ⟨cpk (u_2 u 2 0 (nI (hs.length + 1))) 0 (hs.length + 1) 161, ?_, ?_, fun f hf1 hf2 => ?_⟩
    · unfold m_X5_save
      have e := o_save31 (u := u) hg h (l := hs.length) (d := hs.length + 1) h2 (by omega)
      refine lp_inr ?_
      simp (disch := omega) only [st_X5_save_2, dr_mp, h.mm, g2, h2, e, z_0, z_1, z_2, z_3, z_4, z_5, z_6, z_7, z_8, z_9, z_10, z_12, z_13, z_15, z_17, z_20, z_25, z_31, z_33, z_41, z_49, z_57, z_60, z_72, z_100, z_161, z_255, z_256, z_999, z_9999, of_n, nI_add, pk_mul, n_le, n_lt, n_eq, n_cl, ck_n, ck_d, ck_tr, le_t, bd_t, ir_t, bt_r, bt_l, b_t, b_f, b_lt, b_lf, b_ef, z_m1, b_i0, b_i1, z_not, z_ps, f_mb, f_rf, ↓reduceIte, Nat.zero_add, Nat.add_zero, Nat.one_mul, Nat.mul_one, Nat.zero_mul, Nat.mul_zero, not_true_eq_false, not_false_eq_true, hl]
    · have U1 : u_2 u 2 0 (nI (hs.length + 1)) 1 = u 1 := u_ne (by omega)
      have ht : ((v :: hs).take 6).length = hs.length + 1 := by rw [List.length_take, List.length_cons]; omega
      have co : ∀ e n w, n ≤ 8 → e ≠ hs.length + 1 → cr (u 1) e n w → cr (cpk (u_2 u 2 0 (nI (hs.length + 1))) 0 (hs.length + 1) 161 1) e n w := fun e n w h8 he hc => cpk_co h8 he (by rw [U1]; exact hc)
      refine ⟨co 0 _ _ hn (by omega) h1, ⟨by rw [cpk_ne (by omega), u_s, ht], by rw [ht]; omega⟩, fun i w hw => ?_, fun i hi => ⟨fun hz => ?_, fun w hw => ?_⟩, ?_⟩
      · rw [ht]
        cases i with
        | zero =>
          have e : v = w := by
            have : some v = some w := by rw [← hw]; rfl
            exact Option.some.inj this
          subst e
          exact ⟨hn, cpk_cr hn (by rw [U1]; exact h1)⟩
        | succ j =>
          have hj : j + 1 < 6 := by
            have := (List.getElem?_eq_some_iff.mp hw).1
            rw [ht] at this
            omega
          rw [List.getElem?_take_of_lt hj, List.getElem?_cons_succ] at hw
          have k := h3 j w hw
          have hlt := (List.getElem?_eq_some_iff.mp hw).1
          rw [show hs.length + 1 - (j + 1) = hs.length - j by omega]
          exact ⟨k.1, co _ _ _ k.1 (by omega) k.2⟩
      · rw [cpk_ne (by omega), u_ne (by omega)]
        exact (h4 i hi).1 hz
      · obtain ⟨k1, k2, k3⟩ := (h4 i hi).2 w hw
        rw [cpk_ne (by omega), u_ne (by omega)]
        exact ⟨k1, k2, co _ _ _ k2 (by omega) k3⟩
      · rw [cpk_ne (by omega), cpk_ne (by omega), u_ne (by omega), u_ne (by omega)]
        exact h5
    · rw [cpk_ne hf1, u_ne hf2]
end SM
