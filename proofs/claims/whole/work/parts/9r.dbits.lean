/-! BITS of shares: the reference -/
theorem zm_64 (c : Nat) (q : Int) : FP.Core.zmag FP.Core.b64 (.fin false c q) = c * 2 ^ (q + 1074).toNat := by
  show c * 2 ^ (q - FP.Core.b64.qmin).toNat = _
  rw [FP.Core.qmin_b64, show q - -1074 = q + 1074 by omega]
theorem zv_64 (c : Nat) (q : Int) : FP.Core.zval FP.Core.b64 (.fin false c q) = ((c * 2 ^ (q + 1074).toNat : Nat) : Int) := by
  unfold FP.Core.zval FP.Core.sgn
  rw [zm_64]
  rfl
theorem w_0 : FP.Core.zval FP.Core.b64 (FP.Core.val64 FP.dconst0) = 0 := by decide +kernel
theorem w_1 : FP.Core.val64 FP.dconst1 = .fin false (2 ^ 52) (-52) := by decide +kernel
theorem w_2 : FP.Core.val64 4611686018427387904 = .fin false (2 ^ 52) (-51) := by decide +kernel
theorem w_23 : FP.Core.val64 (FP.l2d 8388608) = .fin false (2 ^ 52) (-29) := by decide +kernel
theorem nn_of64 {r : UInt64} {s : Bool} {c : Nat} {q : Int} (h : FP.Core.val64 r = .fin s c q) : nn64 r = true := nn64_n ((FP.Core.notNaN_iff r).mpr (by rw [h]; exact fun z => by cases z))
theorem dn_0 : FP.Core.val64 FP.dconst0 ≠ .nan := by decide +kernel
theorem mul_2d {a : UInt64} {c : Nat} {q : Int} (h : FP.Core.val64 a = .fin false c q) (h1 : 2 ^ 52 ≤ c) (h2 : c < 2 ^ 53) (q1 : -1074 ≤ q) (q2 : q ≤ 0) : FP.Core.val64 (FP.dmul a 4611686018427387904) = .fin false c (q + 1) := by
  have e : FP.Core.val64 (FP.dmul a 4611686018427387904) = FP.Core.round FP.Core.b64 (FP.Core.exactProduct (FP.Core.val64 a) (FP.Core.val64 4611686018427387904)) := FP.Core.val64_dmul _ _
  rw [e, h, w_2]
  show FP.Core.roundRatio FP.Core.b64 false (c * 2 ^ 52) 1 (q + -51) = _
  refine FP.Core.roundRatio_exact FP.Core.good_b64 (by decide) ⟨h2, ?_, ?_, Or.inr h1⟩ ?_
  · rw [FP.Core.qmin_b64]; omega
  · rw [show FP.Core.b64.qmax = 971 by decide]; omega
  · rw [show (q + -51 - (q + 1)).toNat = 0 by omega, show (q + 1 - (q + -51)).toNat = 52 by omega, Nat.pow_zero, Nat.mul_one, Nat.mul_one]
theorem sum_1d {c : Nat} (h1 : 2 ^ 52 ≤ c) : FP.Core.exactSum (.fin false c (-52)) (.fin true (2 ^ 52) (-52)) = .fin false (c - 2 ^ 52) (-52) := by
  obtain ⟨P, hP⟩ : ∃ P : Nat, 2 ^ 52 = P := ⟨_, rfl⟩
  rw [hP] at h1 ⊢
  have hu : FP.Core.sumUnits false c (-52) true P (-52) (-52) = ((c - P : Nat) : Int) := by
    unfold FP.Core.sumUnits FP.Core.inUnits FP.Core.signed
    rw [show ((-52 : Int) - -52).toNat = 0 from rfl, Nat.pow_zero, Nat.mul_one, Nat.mul_one, if_neg Bool.false_ne_true, if_pos rfl]
    omega
  show FP.Core.Datum.fin (FP.Core.sumSign false true (FP.Core.sumUnits false c (-52) true P (-52) (min (-52) (-52)))) (FP.Core.sumUnits false c (-52) true P (-52) (min (-52) (-52))).natAbs (min (-52) (-52)) = _
  rw [show min (-52 : Int) (-52) = -52 from rfl, hu]
  have hg : FP.Core.sumSign false true ((c - P : Nat) : Int) = false := by
    unfold FP.Core.sumSign
    split
    · rfl
    · exact decide_eq_false (by omega)
  rw [hg, Int.natAbs_natCast]
theorem sub_1d {a : UInt64} {c : Nat} (h : FP.Core.val64 a = .fin false c (-52)) (h1 : 2 ^ 52 ≤ c) (h2 : c < 2 ^ 53) : ∃ c' n : Nat, FP.Core.val64 (FP.dsub a FP.dconst1) = .fin false c' ((n : Int) - 1074) ∧ c' * 2 ^ n = (c - 2 ^ 52) * 2 ^ 1022 := by
  have e : FP.Core.val64 (FP.dsub a FP.dconst1) = FP.Core.round FP.Core.b64 (FP.Core.exactSum (FP.Core.val64 a) (FP.Core.negate (FP.Core.val64 FP.dconst1))) := FP.Core.val64_dsub _ _
  have e3 : FP.Core.val64 (FP.dsub a FP.dconst1) = FP.Core.round FP.Core.b64 (.fin false (c - 2 ^ 52) (-52)) := by
    rw [e, h, w_1, ← sum_1d h1]
    rfl
  have ht : c - 2 ^ 52 < 2 ^ 53 := by omega
  generalize c - 2 ^ 52 = t at e3 ht ⊢
  obtain ⟨c', q', k1, k2⟩ := FP.Core.round_exact FP.Core.good_b64 false (c := t) (q := -52) ht (by decide) (by decide)
  have hf := FP.Core.round_fits FP.Core.good_b64 (.fin false t (-52))
  rw [k1] at hf
  have hq : -1074 ≤ q' := by have := hf.2.1; rw [FP.Core.qmin_b64] at this; exact this
  refine ⟨c', (q' + 1074).toNat, ?_, ?_⟩
  · rw [e3, k1, show (((q' + 1074).toNat : Nat) : Int) - 1074 = q' by omega]
  · unfold FP.Core.inUnits at k2
    rw [FP.Core.qmin_b64, show q' - -1074 = q' + 1074 by omega, show ((-52 : Int) - -1074).toNat = 1022 from rfl] at k2
    exact k2
theorem l_toInt {n : Nat} (h : n < 2 ^ 62) : (Int64.ofNat n).toInt = (n : Int) := Int64.toInt_ofNat_of_lt (by omega)
theorem mul_kd {a : UInt64} {c n t : Nat} (h : FP.Core.val64 a = .fin false c ((n : Int) - 1074)) (h1 : c * 2 ^ n = t * 2 ^ 1051) (ht : t < 2 ^ 23) : (∃ c' q, FP.Core.val64 (FP.dmul a (FP.l2d 8388608)) = .fin false c' q) ∧ FP.d2l (FP.dmul a (FP.l2d 8388608)) = Int64.ofNat t := by
  have e : FP.Core.val64 (FP.dmul a (FP.l2d 8388608)) = FP.Core.round FP.Core.b64 (FP.Core.exactProduct (FP.Core.val64 a) (FP.Core.val64 (FP.l2d 8388608))) := FP.Core.val64_dmul _ _
  have e2 : FP.Core.val64 (FP.dmul a (FP.l2d 8388608)) = FP.Core.round FP.Core.b64 (.fin false t 0) := by
    rw [e, h, w_23]
    show FP.Core.roundRatio FP.Core.b64 false (c * 2 ^ 52) 1 ((n : Int) - 1074 + -29) = FP.Core.roundRatio FP.Core.b64 false t 1 0
    refine FP.Core.roundRatio_congr (by decide) (by decide) ?_
    rcases Nat.le_total 1103 n with g | g
    · rw [show ((n : Int) - 1074 + -29 - 0).toNat = n - 1103 by omega, show (0 - ((n : Int) - 1074 + -29)).toNat = 0 by omega, Nat.pow_zero]
      exact cal1 (by rw [← Nat.pow_add, ← Nat.pow_add]; congr 1; omega) h1 (Nat.two_pow_pos 1051)
    · rw [show ((n : Int) - 1074 + -29 - 0).toNat = 0 by omega, show (0 - ((n : Int) - 1074 + -29)).toNat = 1103 - n by omega, Nat.pow_zero]
      exact cal2 (by rw [← Nat.pow_add, ← Nat.pow_add]; congr 1; omega) h1 (Nat.two_pow_pos n)
  obtain ⟨c', q', k1, k2⟩ := FP.Core.round_exact FP.Core.good_b64 false (c := t) (q := 0) (show t < 2 ^ 53 by omega) (by decide) (by decide)
  rw [k1] at e2
  refine ⟨⟨c', q', e2⟩, Int64.toInt_inj.mp ?_⟩
  have hv := FP.Core.d2l_val (a := FP.dmul a (FP.l2d 8388608)) (by rw [e2]; exact fun z => by cases z)
  have hz : FP.Core.zmag FP.Core.b64 (FP.Core.Datum.fin false c' q') = t * FP.Core.one64 := by
    show FP.Core.inUnits c' q' FP.Core.b64.qmin = _
    rw [k2]
    unfold FP.Core.inUnits FP.Core.one64
    rw [FP.Core.qmin_b64]
    rfl
  rw [e2] at hv
  have hv : (FP.d2l (FP.dmul a (FP.l2d 8388608))).toInt = max (-2 ^ 63) (min (2 ^ 63 - 1) (FP.Core.signed false (FP.Core.zmag FP.Core.b64 (FP.Core.Datum.fin false c' q') / FP.Core.one64))) := hv
  rw [hv, hz, Nat.mul_div_cancel _ FP.Core.one64_pos, l_toInt (by omega)]
  show max (-2 ^ 63) (min (2 ^ 63 - 1) ((t : Nat) : Int)) = (t : Int)
  omega
section DB2
variable {S : PH}
theorem cmp_1d {a : UInt64} {c k : Nat} (h : FP.Core.val64 a = .fin false c (-52 - (k : Int))) (h2 : c < 2 ^ 53) (hk : 0 < k) (hk2 : k ≤ 100) : FP.dcmp a FP.dconst1 = some .lt := by
  refine FP.Core.dcmp_lt.mpr ⟨by rw [h]; exact (fun z => by cases z), by rw [w_1]; exact (fun z => by cases z), ?_⟩
  rw [h, w_1, zv_64, zv_64, show (-52 - (k : Int) + 1074).toNat = 1022 - k by omega, show (-52 + 1074 : Int).toNat = 1022 by decide]
  have a1 : c * 2 ^ (1022 - k) < 2 ^ 53 * 2 ^ (1022 - k) := Nat.mul_lt_mul_of_pos_right h2 (Nat.two_pow_pos _)
  have a2 : 2 ^ 53 * 2 ^ (1022 - k) ≤ 2 ^ 52 * 2 ^ 1022 := by
    rw [← Nat.pow_add, ← Nat.pow_add]
    exact Nat.pow_le_pow_right (by decide) (by omega)
  exact Int.ofNat_lt.mpr (Nat.lt_of_lt_of_le a1 a2)
theorem cmp_1ed {a : UInt64} {c : Nat} (h : FP.Core.val64 a = .fin false c (-52)) (h1 : 2 ^ 52 ≤ c) : FP.dcmp a FP.dconst1 = some .gt ∨ FP.dcmp a FP.dconst1 = some .eq := by
  refine FP.Core.dcmp_ge.mpr ⟨by rw [h]; exact (fun z => by cases z), by rw [w_1]; exact (fun z => by cases z), ?_⟩
  rw [h, w_1, zv_64, zv_64]
  exact Int.ofNat_le.mpr (Nat.mul_le_mul_right _ h1)
theorem cmp_2d {a : UInt64} {c k : Nat} (h : FP.Core.val64 a = .fin false c (-52 - (k : Int))) (h2 : c < 2 ^ 53) (hk2 : k ≤ 100) : FP.dcmp a 4611686018427387904 = some .lt := by
  refine FP.Core.dcmp_lt.mpr ⟨by rw [h]; exact (fun z => by cases z), by rw [w_2]; exact (fun z => by cases z), ?_⟩
  rw [h, w_2, zv_64, zv_64, show (-52 - (k : Int) + 1074).toNat = 1022 - k by omega, show (-51 + 1074 : Int).toNat = 1023 by decide]
  have a1 : c * 2 ^ (1022 - k) < 2 ^ 53 * 2 ^ (1022 - k) := Nat.mul_lt_mul_of_pos_right h2 (Nat.two_pow_pos _)
  have a2 : 2 ^ 53 * 2 ^ (1022 - k) ≤ 2 ^ 52 * 2 ^ 1023 := by
    rw [← Nat.pow_add, ← Nat.pow_add]
    exact Nat.pow_le_pow_right (by decide) (by omega)
  exact Int.ofNat_lt.mpr (Nat.lt_of_lt_of_le a1 a2)
theorem cmp_0d {a : UInt64} {c k : Nat} (h : FP.Core.val64 a = .fin false c (-52 - (k : Int))) (h1 : 2 ^ 52 ≤ c) : FP.dcmp a FP.dconst0 = some .gt := by
  refine FP.Core.dcmp_gt.mpr ⟨by rw [h]; exact (fun z => by cases z), dn_0, ?_⟩
  rw [h, w_0, zv_64]
  exact Int.ofNat_lt.mpr (Nat.mul_pos (by omega) (Nat.two_pow_pos _))
theorem o_d41 {d0 : UInt64} {one : Int64} {t : Nat} (ht : t < 2 ^ 23) : ∀ (k n : Nat) (a : UInt64), FP.Core.val64 a = .fin false (2 ^ 52 + t * 2 ^ 29) (-52 - (k : Int)) → k < n → k ≤ 100 → lp (st_X5_bits_41 d0 8388608 one) (a, Int64.ofNat n, S) = some (Int64.ofNat (n - k) * 8388608 + Int64.ofNat t, S)
  | 0, n, a, h, hk, _ => by
    have h : FP.Core.val64 a = .fin false (2 ^ 52 + t * 2 ^ 29) (-52) := h
    have hc : 0 ≤ (Op.cmpValue (FP.dcmp a FP.dconst1) .g) := by
      rcases cmp_1ed h (by omega) with e | e <;> rw [e] <;> decide
    obtain ⟨c', m, e1, e2⟩ := sub_1d h (by omega) (by omega)
    obtain ⟨⟨c2, q2, e3⟩, e4⟩ := mul_kd (t := t) e1 (by
      rw [e2, Nat.add_sub_cancel_left, Nat.mul_assoc, ← Nat.pow_add]) ht
    refine lp_inr ?_
    unfold st_X5_bits_41
    dsimp only
    rw [if_pos hc, ck_t (nn_of64 e1), ck_t (nn_of64 e3), e4]
    rfl
  | k + 1, n, a, h, hk, hk2 => by
    have hc : ¬ 0 ≤ (Op.cmpValue (FP.dcmp a FP.dconst1) .g) := by
      rw [cmp_1d h (by omega) (by omega) hk2]
      decide
    have h' := mul_2d h (by omega) (by omega) (by omega) (by omega)
    rw [show -52 - ((k + 1 : Nat) : Int) + 1 = -52 - (k : Int) by omega] at h'
    have ih := o_d41 (d0 := d0) (one := one) ht k (n - 1) _ h' (by omega) (by omega)
    rw [show n - (k + 1) = n - 1 - k by omega, ← ih]
    refine lp_inl ?_
    have e1 : Int64.ofNat n - 1 = Int64.ofNat (n - 1) := by
      have := Int64.ofNat_sub n 1 (by omega)
      rw [this]
      rfl
    unfold st_X5_bits_41
    dsimp only
    rw [if_neg hc, ck_t (nn_of64 h'), le_t, e1]
    rfl
theorem f2d_sh {x : UInt32} {t k : Nat} (h : FP.Core.val32 x = .fin false (2 ^ 23 + t) (-23 - (k : Int))) (ht : t < 2 ^ 23) (hk : k ≤ 14) : FP.Core.val64 (FP.f2d x) = .fin false (2 ^ 52 + t * 2 ^ 29) (-52 - (k : Int)) := by
  have hn : FP.fIsNaN x = false := (FP.Core.notNaN_iff32 x).mpr (by rw [h]; exact fun z => by cases z)
  rw [FP.f2d_core hn]
  have e : FP.Core.val64 (FP.Core.f2d x) = FP.Core.round FP.Core.b64 (FP.Core.val32 x) := FP.Core.val64_f2d x
  rw [e, h]
  show FP.Core.roundRatio FP.Core.b64 false (2 ^ 23 + t) 1 (-23 - (k : Int)) = _
  refine FP.Core.roundRatio_exact FP.Core.good_b64 (by decide) ⟨?_, ?_, ?_, Or.inr ?_⟩ ?_
  · show 2 ^ 52 + t * 2 ^ 29 < 2 ^ 53
    omega
  · rw [FP.Core.qmin_b64]; omega
  · rw [show FP.Core.b64.qmax = 971 by decide]; omega
  · show 2 ^ 52 ≤ 2 ^ 52 + t * 2 ^ 29
    omega
  · rw [show (-23 - (k : Int) - (-52 - (k : Int))).toNat = 29 by omega, show (-52 - (k : Int) - (-23 - (k : Int))).toNat = 0 by omega, Nat.pow_zero, Nat.mul_one, Nat.mul_one, Nat.add_mul]
theorem f2d_nn {x : UInt32} {t k : Nat} (h : FP.Core.val32 x = .fin false (2 ^ 23 + t) (-23 - (k : Int))) (ht : t < 2 ^ 23) (hk : k ≤ 14) : nn64 (FP.f2d x) = true := nn_of64 (f2d_sh h ht hk)
theorem f2d_nn0 {x : UInt32} (h : FP.Core.val32 x = .fin false 0 (-149)) : nn64 (FP.f2d x) = true := by
  have e : x = 0 := by
    have k := FP.Core.of32_val32 (a := x) (by rw [h]; exact fun z => by cases z)
    rw [← k, h]
    decide +kernel
  rw [e]
  decide +kernel
theorem o_fbits {x : UInt32} {t k : Nat} (h : FP.Core.val32 x = .fin false (2 ^ 23 + t) (-23 - (k : Int))) (ht : t < 2 ^ 23) (hk : k ≤ 14) : nn64 (FP.f2d x) = true ∧ m_X5_bits (FP.f2d x) 8388608 127 S = some (Int64.ofNat (127 - k) * 8388608 + Int64.ofNat t, S) := by
  have hd := f2d_sh h ht hk
  refine ⟨nn_of64 hd, ?_⟩
  unfold m_X5_bits
  rw [cmp_0d hd (by omega), if_neg (by decide)]
  refine lp_inr ?_
  unfold st_X5_bits_15
  dsimp only
  rw [cmp_2d hd (by omega) (by omega), if_pos (by decide), show (127 : Int64) = Int64.ofNat 127 from rfl, o_d41 ht k 127 _ hd (by omega) (by omega)]
  rfl
theorem o_fbits0 {x : UInt32} (h : FP.Core.val32 x = .fin false 0 (-149)) : nn64 (FP.f2d x) = true ∧ m_X5_bits (FP.f2d x) 8388608 127 S = some (0, S) := by
  have e : x = 0 := by
    have k := FP.Core.of32_val32 (a := x) (by rw [h]; exact fun z => by cases z)
    rw [← k, h]
    decide +kernel
  have e2 : Op.cmpValue (FP.dcmp (FP.f2d 0) FP.dconst0) .l = 0 := by decide +kernel
  rw [e]
  refine ⟨by decide +kernel, ?_⟩
  unfold m_X5_bits
  rw [e2]
  rfl
end DB2
/-- the bits of a share -/
theorem sh_l {n t : Nat} (hn : n < 128) (ht : t < 2 ^ 23) : Int32.toInt64 (nI (2 ^ 23 * n + t)) = Int64.ofNat n * 8388608 + Int64.ofNat t := by
  have e : Int64.ofNat n * 8388608 + Int64.ofNat t = Int64.ofNat (n * 8388608 + t) := by
    rw [Int64.ofNat_add, Int64.ofNat_mul]
    rfl
  rw [e]
  apply Int64.toInt_inj.mp
  rw [Int32.toInt_toInt64, l_toInt (by omega), nI_toInt (by omega)]
  omega
/-- both answer alike -/
theorem share_bits {v : AS} (hI : IV v) : ∃ y : Int32, (∀ S, m_X4_floatBits (a_share v) S = some (y, S)) ∧ nn64 (FP.f2d (a_share v)) = true ∧ ∀ S, m_X5_bits (FP.f2d (a_share v)) 8388608 127 S = some (Int32.toInt64 y, S) := by
  rcases share_shape hI with h | ⟨c, k, h, h1, h2, hk⟩
  · exact ⟨nI 0, fun S => p_fbits0 h, f2d_nn0 h, fun S => (o_fbits0 h).2⟩
  · obtain ⟨t, rfl⟩ : ∃ t, c = 2 ^ 23 + t := ⟨c - 2 ^ 23, by omega⟩
    have ht : t < 2 ^ 23 := by omega
    refine ⟨nI (2 ^ 23 * (127 - k) + t), fun S => ?_, f2d_nn h ht hk, fun S => ?_⟩
    · have := p_fbits (S := S) h h1 h2 hk
      rwa [Nat.add_sub_cancel_left] at this
    · rw [sh_l (by omega) ht]
      exact (o_fbits h ht hk).2
