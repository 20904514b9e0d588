/-! BITS of shares: the class -/
theorem zv_32 (c : Nat) (q : Int) : FP.Core.zval FP.Core.b32 (.fin false c q) = ((c * 2 ^ (q + 149).toNat : Nat) : Int) := by
  unfold FP.Core.zval FP.Core.sgn
  rw [zm_32]
  rfl
theorem v_0 : FP.Core.zval FP.Core.b32 (FP.Core.val32 FP.fconst0) = 0 := by decide +kernel
theorem v_1 : FP.Core.val32 FP.fconst1 = .fin false (2 ^ 23) (-23) := by decide +kernel
theorem v_2 : FP.Core.val32 FP.fconst2 = .fin false (2 ^ 23) (-22) := by decide +kernel
theorem v_23 : FP.Core.val32 1258291200 = .fin false (2 ^ 23) 0 := by decide +kernel
theorem nn_of {r : UInt32} {s : Bool} {c : Nat} {q : Int} (h : FP.Core.val32 r = .fin s c q) : nn32 r = true := nn32_n ((FP.Core.notNaN_iff32 r).mpr (by rw [h]; exact fun z => by cases z))
theorem fn_0 : FP.Core.val32 FP.fconst0 ≠ .nan := by decide +kernel
theorem mul_2 {a : UInt32} {c : Nat} {q : Int} (h : FP.Core.val32 a = .fin false c q) (h1 : 2 ^ 23 ≤ c) (h2 : c < 2 ^ 24) (q1 : -149 ≤ q) (q2 : q ≤ 0) : FP.Core.val32 (FP.fmul a FP.fconst2) = .fin false c (q + 1) := by
  have e : FP.Core.val32 (FP.fmul a FP.fconst2) = FP.Core.round FP.Core.b32 (FP.Core.exactProduct (FP.Core.val32 a) (FP.Core.val32 FP.fconst2)) := FP.Core.val32_fmul _ _
  rw [e, h, v_2]
  show FP.Core.roundRatio FP.Core.b32 false (c * 2 ^ 23) 1 (q + -22) = _
  refine FP.Core.roundRatio_exact FP.Core.good_b32 (by decide) ⟨h2, ?_, ?_, Or.inr h1⟩ ?_
  · rw [FP.Core.qmin_b32]; omega
  · rw [show FP.Core.b32.qmax = 104 by decide]; omega
  · rw [show (q + -22 - (q + 1)).toNat = 0 by omega, show (q + 1 - (q + -22)).toNat = 23 by omega, Nat.pow_zero, Nat.mul_one, Nat.mul_one]
theorem sum_1 {c : Nat} (h1 : 2 ^ 23 ≤ c) : FP.Core.exactSum (.fin false c (-23)) (.fin true (2 ^ 23) (-23)) = .fin false (c - 2 ^ 23) (-23) := by
  obtain ⟨P, hP⟩ : ∃ P : Nat, 2 ^ 23 = P := ⟨_, rfl⟩
  rw [hP] at h1 ⊢
  have hu : FP.Core.sumUnits false c (-23) true P (-23) (-23) = ((c - P : Nat) : Int) := by
    unfold FP.Core.sumUnits FP.Core.inUnits FP.Core.signed
    rw [show ((-23 : Int) - -23).toNat = 0 from rfl, Nat.pow_zero, Nat.mul_one, Nat.mul_one, if_neg Bool.false_ne_true, if_pos rfl]
    omega
  show FP.Core.Datum.fin (FP.Core.sumSign false true (FP.Core.sumUnits false c (-23) true P (-23) (min (-23) (-23)))) (FP.Core.sumUnits false c (-23) true P (-23) (min (-23) (-23))).natAbs (min (-23) (-23)) = _
  rw [show min (-23 : Int) (-23) = -23 from rfl, hu]
  have hg : FP.Core.sumSign false true ((c - P : Nat) : Int) = false := by
    unfold FP.Core.sumSign
    split
    · rfl
    · exact decide_eq_false (by omega)
  rw [hg, Int.natAbs_natCast]
theorem sub_1 {a : UInt32} {c : Nat} (h : FP.Core.val32 a = .fin false c (-23)) (h1 : 2 ^ 23 ≤ c) (h2 : c < 2 ^ 24) : ∃ c' n : Nat, FP.Core.val32 (FP.fsub a FP.fconst1) = .fin false c' ((n : Int) - 149) ∧ c' * 2 ^ n = (c - 2 ^ 23) * 2 ^ 126 := by
  have e : FP.Core.val32 (FP.fsub a FP.fconst1) = FP.Core.round FP.Core.b32 (FP.Core.exactSum (FP.Core.val32 a) (FP.Core.negate (FP.Core.val32 FP.fconst1))) := FP.Core.val32_fsub _ _
  have e3 : FP.Core.val32 (FP.fsub a FP.fconst1) = FP.Core.round FP.Core.b32 (.fin false (c - 2 ^ 23) (-23)) := by
    rw [e, h, v_1, ← sum_1 h1]
    rfl
  have ht : c - 2 ^ 23 < 2 ^ 24 := by omega
  generalize c - 2 ^ 23 = t at e3 ht ⊢
  obtain ⟨c', q', k1, k2⟩ := FP.Core.round_exact FP.Core.good_b32 false (c := t) (q := -23) ht (by decide) (by decide)
  have hf := FP.Core.round_fits FP.Core.good_b32 (.fin false t (-23))
  rw [k1] at hf
  have hq : -149 ≤ q' := by have := hf.2.1; rw [FP.Core.qmin_b32] at this; exact this
  refine ⟨c', (q' + 149).toNat, ?_, ?_⟩
  · rw [e3, k1, show (((q' + 149).toNat : Nat) : Int) - 149 = q' by omega]
  · unfold FP.Core.inUnits at k2
    rw [FP.Core.qmin_b32, show q' - -149 = q' + 149 by omega, show ((-23 : Int) - -149).toNat = 126 from rfl] at k2
    exact k2
theorem cal1 {c A B P t N : Nat} (en : N = A * B * P) (h1 : c * N = t * P) (hP : 0 < P) : c * A * 1 * B = t * 1 * 1 := by
  refine Nat.eq_of_mul_eq_mul_right hP ?_
  rw [Nat.mul_one, Nat.mul_one, Nat.mul_one, ← h1, en]
  ac_rfl
theorem cal2 {c A N P t M : Nat} (en : M * N = P * A) (h1 : c * N = t * P) (hN : 0 < N) : c * A * 1 * 1 = t * 1 * M := by
  refine Nat.eq_of_mul_eq_mul_right hN ?_
  rw [Nat.mul_one, Nat.mul_one, Nat.mul_one]
  calc c * A * N = c * N * A := by ac_rfl
    _ = t * (P * A) := by rw [h1]; ac_rfl
    _ = t * M * N := by rw [← en]; ac_rfl
theorem mul_23 {a : UInt32} {c n t : Nat} (h : FP.Core.val32 a = .fin false c ((n : Int) - 149)) (h1 : c * 2 ^ n = t * 2 ^ 126) (ht : t < 2 ^ 23) : (∃ c' q, FP.Core.val32 (FP.fmul a 1258291200) = .fin false c' q) ∧ FP.f2i (FP.fmul a 1258291200) = nI t := by
  have e : FP.Core.val32 (FP.fmul a 1258291200) = FP.Core.round FP.Core.b32 (FP.Core.exactProduct (FP.Core.val32 a) (FP.Core.val32 1258291200)) := FP.Core.val32_fmul _ _
  have e2 : FP.Core.val32 (FP.fmul a 1258291200) = FP.Core.round FP.Core.b32 (.fin false t 0) := by
    rw [e, h, v_23]
    show FP.Core.roundRatio FP.Core.b32 false (c * 2 ^ 23) 1 ((n : Int) - 149 + 0) = FP.Core.roundRatio FP.Core.b32 false t 1 0
    refine FP.Core.roundRatio_congr (by decide) (by decide) ?_
    rcases Nat.le_total 149 n with g | g
    · rw [show ((n : Int) - 149 + 0 - 0).toNat = n - 149 by omega, show (0 - ((n : Int) - 149 + 0)).toNat = 0 by omega, Nat.pow_zero]
      exact cal1 (by rw [← Nat.pow_add, ← Nat.pow_add]; congr 1; omega) h1 (Nat.two_pow_pos 126)
    · rw [show ((n : Int) - 149 + 0 - 0).toNat = 0 by omega, show (0 - ((n : Int) - 149 + 0)).toNat = 149 - n by omega, Nat.pow_zero]
      exact cal2 (by rw [← Nat.pow_add, ← Nat.pow_add]; congr 1; omega) h1 (Nat.two_pow_pos n)
  obtain ⟨c', q', k1, k2⟩ := FP.Core.round_exact FP.Core.good_b32 false (c := t) (q := 0) (by show t < 2 ^ 24; omega) (by decide) (by decide)
  rw [k1] at e2
  refine ⟨⟨c', q', e2⟩, Int32.toInt_inj.mp ?_⟩
  have hv := FP.Core.f2i_val (a := FP.fmul a 1258291200) (by rw [e2]; exact fun z => by cases z)
  have hz : FP.Core.zmag FP.Core.b32 (FP.Core.Datum.fin false c' q') = t * FP.Core.one32 := by
    show FP.Core.inUnits c' q' FP.Core.b32.qmin = _
    rw [k2]
    unfold FP.Core.inUnits FP.Core.one32
    rw [FP.Core.qmin_b32]
    rfl
  rw [e2] at hv
  have hv : (FP.f2i (FP.fmul a 1258291200)).toInt = max (-2 ^ 31) (min (2 ^ 31 - 1) (FP.Core.signed false (FP.Core.zmag FP.Core.b32 (FP.Core.Datum.fin false c' q') / FP.Core.one32))) := hv
  rw [hv, hz, Nat.mul_div_cancel _ FP.Core.one32_pos, nI_toInt (by omega)]
  show max (-2 ^ 31) (min (2 ^ 31 - 1) ((t : Nat) : Int)) = (t : Int)
  omega
theorem sh_23 : ∀ n, n < 128 → nI n <<< ((23 : Int32) &&& 31) = nI (2 ^ 23 * n) := by decide
section FB2
variable {S : PH}
theorem p_fend {f0 a : UInt32} {c n : Nat} (h : FP.Core.val32 a = .fin false c (-23)) (h1 : 2 ^ 23 ≤ c) (h2 : c < 2 ^ 24) (hn : n < 128) : j_X4_floatBits_59 f0 a (nI n) S = some (nI (2 ^ 23 * n + (c - 2 ^ 23)), S) := by
  obtain ⟨c', k, e1, e2⟩ := sub_1 h h1 h2
  obtain ⟨⟨c2, q2, e3⟩, e4⟩ := mul_23 e1 e2 (by omega)
  unfold j_X4_floatBits_59
  rw [ck_t (nn_of e1), ck_t (nn_of e3), e4, sh_23 n hn, nI_or, ← Nat.two_pow_add_eq_or_of_lt (by omega)]
theorem cmp_1 {a : UInt32} {c k : Nat} (h : FP.Core.val32 a = .fin false c (-23 - (k : Int))) (h2 : c < 2 ^ 24) (hk : 0 < k) (hk2 : k ≤ 100) : FP.fcmp a FP.fconst1 = some .lt := by
  refine FP.Core.fcmp_lt.mpr ⟨by rw [h]; exact (fun z => by cases z), by rw [v_1]; exact (fun z => by cases z), ?_⟩
  rw [h, v_1, zv_32, zv_32, show (-23 - (k : Int) + 149).toNat = 126 - k by omega, show (-23 + 149 : Int).toNat = 126 by decide]
  have a1 : c * 2 ^ (126 - k) < 2 ^ 24 * 2 ^ (126 - k) := Nat.mul_lt_mul_of_pos_right h2 (Nat.two_pow_pos _)
  have a2 : 2 ^ 24 * 2 ^ (126 - k) ≤ 2 ^ 23 * 2 ^ 126 := by
    rw [← Nat.pow_add, ← Nat.pow_add]
    exact Nat.pow_le_pow_right (by decide) (by omega)
  exact Int.ofNat_lt.mpr (Nat.lt_of_lt_of_le a1 a2)
theorem cmp_1e {a : UInt32} {c : Nat} (h : FP.Core.val32 a = .fin false c (-23)) (h1 : 2 ^ 23 ≤ c) : FP.fcmp a FP.fconst1 = some .gt ∨ FP.fcmp a FP.fconst1 = some .eq := by
  refine FP.Core.fcmp_ge.mpr ⟨by rw [h]; exact (fun z => by cases z), by rw [v_1]; exact (fun z => by cases z), ?_⟩
  rw [h, v_1, zv_32, zv_32]
  exact Int.ofNat_le.mpr (Nat.mul_le_mul_right _ h1)
theorem cmp_2 {a : UInt32} {c k : Nat} (h : FP.Core.val32 a = .fin false c (-23 - (k : Int))) (h2 : c < 2 ^ 24) (hk2 : k ≤ 100) : FP.fcmp a FP.fconst2 = some .lt := by
  refine FP.Core.fcmp_lt.mpr ⟨by rw [h]; exact (fun z => by cases z), by rw [v_2]; exact (fun z => by cases z), ?_⟩
  rw [h, v_2, zv_32, zv_32, show (-23 - (k : Int) + 149).toNat = 126 - k by omega, show (-22 + 149 : Int).toNat = 127 by decide]
  have a1 : c * 2 ^ (126 - k) < 2 ^ 24 * 2 ^ (126 - k) := Nat.mul_lt_mul_of_pos_right h2 (Nat.two_pow_pos _)
  have a2 : 2 ^ 24 * 2 ^ (126 - k) ≤ 2 ^ 23 * 2 ^ 127 := by
    rw [← Nat.pow_add, ← Nat.pow_add]
    exact Nat.pow_le_pow_right (by decide) (by omega)
  exact Int.ofNat_lt.mpr (Nat.lt_of_lt_of_le a1 a2)
theorem cmp_0 {a : UInt32} {c k : Nat} (h : FP.Core.val32 a = .fin false c (-23 - (k : Int))) (h1 : 2 ^ 23 ≤ c) : FP.fcmp a FP.fconst0 = some .gt := by
  refine FP.Core.fcmp_gt.mpr ⟨by rw [h]; exact (fun z => by cases z), fn_0, ?_⟩
  rw [h, v_0, zv_32]
  exact Int.ofNat_lt.mpr (Nat.mul_pos (by omega) (Nat.two_pow_pos _))
theorem p_f38 {f0 : UInt32} {c : Nat} (h1 : 2 ^ 23 ≤ c) (h2 : c < 2 ^ 24) : ∀ (k n : Nat) (a : UInt32), FP.Core.val32 a = .fin false c (-23 - (k : Int)) → k < n → n < 128 → k ≤ 100 → lp (st_X4_floatBits_38 f0) (a, nI n, S) = some (nI (2 ^ 23 * (n - k) + (c - 2 ^ 23)), S)
  | 0, n, a, h, hk, hn, _ => by
    have h : FP.Core.val32 a = .fin false c (-23) := h
    have hc : 0 ≤ (Op.cmpValue (FP.fcmp a FP.fconst1) .g) := by
      rcases cmp_1e h h1 with e | e <;> rw [e] <;> decide
    refine lp_inr ?_
    unfold st_X4_floatBits_38
    dsimp only
    rw [if_pos hc, p_fend h h1 h2 hn]
    rfl
  | k + 1, n, a, h, hk, hn, hk2 => by
    have hc : ¬ 0 ≤ (Op.cmpValue (FP.fcmp a FP.fconst1) .g) := by
      rw [cmp_1 h h2 (by omega) hk2]
      decide
    have h' := mul_2 h h1 h2 (by omega) (by omega)
    rw [show -23 - ((k + 1 : Nat) : Int) + 1 = -23 - (k : Int) by omega] at h'
    have ih := p_f38 (f0 := f0) h1 h2 k (n - 1) _ h' (by omega) (by omega) (by omega)
    rw [show n - (k + 1) = n - 1 - k by omega, ← ih]
    refine lp_inl ?_
    have e1 : nI n + (-1 : Int32) = nI (n - 1) := by
      have := pk_sub (a := n) (b := 1) (by omega)
      rw [← this, Int32.sub_eq_add_neg]
      exact congrArg (fun z => nI n + z) (show (-1 : Int32) = -nI 1 by decide)
    unfold st_X4_floatBits_38
    dsimp only
    rw [if_neg hc, if_neg (show ¬ nI n ≤ (1 : Int32) by show ¬ nI n ≤ nI 1; rw [nI_leI (by omega) (by omega)]; omega), ck_t (nn_of h'), le_t, e1]
theorem p_fbits {a : UInt32} {c k : Nat} (h : FP.Core.val32 a = .fin false c (-23 - (k : Int))) (h1 : 2 ^ 23 ≤ c) (h2 : c < 2 ^ 24) (hk : k ≤ 14) : m_X4_floatBits a S = some (nI (2 ^ 23 * (127 - k) + (c - 2 ^ 23)), S) := by
  unfold m_X4_floatBits
  rw [cmp_0 h h1, if_pos (by decide)]
  refine lp_inr ?_
  unfold st_X4_floatBits_13
  dsimp only
  rw [cmp_2 h h2 (by omega), if_pos (by decide), show (127 : Int32) = nI 127 from rfl, p_f38 h1 h2 k 127 a h (by omega) (by omega) (by omega)]
  rfl
theorem p_fbits0 {a : UInt32} (h : FP.Core.val32 a = .fin false 0 (-149)) : m_X4_floatBits a S = some (nI 0, S) := by
  have e : a = 0 := by
    have k := FP.Core.of32_val32 (a := a) (by rw [h]; exact fun z => by cases z)
    rw [← k, h]
    decide +kernel
  rw [e]
  have e2 : Op.cmpValue (FP.fcmp 0 FP.fconst0) .g = 0 := by decide +kernel
  unfold m_X4_floatBits
  rw [e2]
  rfl
end FB2
