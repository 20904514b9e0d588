/-! THE SHARE as a number: none, or a significand and a power -/
theorem spent_n {v : AS} (hI : IV v) : ∃ a b, a_spent v = nI a ∧ nI 100 + v 15 0 = nI b ∧ a ≤ b ∧ 100 ≤ b ∧ b ≤ 10099 := by
  obtain ⟨b, b1, b2, b3, b4⟩ := share_den hI
  refine ⟨sm (nv v 3) 8, b, ?_, b3, ?_, b1, b2⟩
  · have e : a_spent v = fo (fun i a => a + nI (nv v 3 i)) 8 (nI 0) := by
      unfold a_spent
      refine fo_congr (fun i a hi => ?_)
      rw [← (hI.sp hi).1]
    rw [e, fo_sum, Nat.zero_add]
  · have h1 := hI.sum
    have h2 : sm (nv v 3) 8 ≤ sm (nv v 2) 8 := sm_mono 8 (fun p hp => (hI.sp hp).2)
    omega
theorem fits_1 {q : Int} (h1 : -149 ≤ q) (h2 : q ≤ 104) : FP.Core.fits FP.Core.b32 (.fin false (2 ^ 23) q) := by
  refine ⟨by decide, ?_, ?_, Or.inr (by decide)⟩
  · rw [FP.Core.qmin_b32]; exact h1
  · show q ≤ FP.Core.b32.qmax
    rw [show FP.Core.b32.qmax = 104 by decide]; exact h2
theorem int_32 {a : Nat} (ha : a < 2 ^ 24) : ∃ c n : Nat, FP.Core.val32 (FP.i2f (nI a)) = .fin false c ((n : Int) - 149) ∧ c * 2 ^ n = a * 2 ^ 149 := by
  have e1 : FP.Core.val32 (FP.i2f (nI a)) = FP.Core.round FP.Core.b32 (FP.Core.ofInt (a : Int)) := by
    rw [← nI_toInt (n := a) (by omega)]
    exact FP.Core.val32_i2f (nI a)
  have e2 : FP.Core.ofInt (a : Int) = .fin false a 0 := by
    unfold FP.Core.ofInt
    rw [decide_eq_false (by omega)]
    rfl
  obtain ⟨c, q, h1, h2⟩ := FP.Core.round_exact FP.Core.good_b32 false (c := a) (q := 0) ha (by decide) (by decide)
  have hf := FP.Core.round_fits FP.Core.good_b32 (.fin false a 0)
  rw [h1] at hf
  have hq : -149 ≤ q := by have := hf.2.1; rw [FP.Core.qmin_b32] at this; exact this
  refine ⟨c, (q + 149).toNat, ?_, ?_⟩
  · rw [e1, e2, h1, show (((q + 149).toNat : Nat) : Int) - 149 = q by omega]
  · unfold FP.Core.inUnits at h2
    rw [FP.Core.qmin_b32, show q - -149 = q + 149 by omega] at h2
    exact h2
theorem share_q {a b : Nat} (ha : a < 2 ^ 24) (hb : b < 2 ^ 24) (h0 : 0 < b) : FP.Core.val32 (FP.fdiv (FP.i2f (nI a)) (FP.i2f (nI b))) = FP.Core.roundRatio FP.Core.b32 false a b 0 := by
  obtain ⟨c, n, h1, h2⟩ := int_32 ha
  obtain ⟨d, k, k1, k2⟩ := int_32 hb
  have hd : d ≠ 0 := by
    rintro rfl
    rw [Nat.zero_mul] at k2
    have := Nat.mul_pos h0 (Nat.two_pow_pos 149)
    omega
  have e : FP.Core.val32 (FP.fdiv (FP.i2f (nI a)) (FP.i2f (nI b))) = FP.Core.quotient FP.Core.b32 (FP.Core.val32 (FP.i2f (nI a))) (FP.Core.val32 (FP.i2f (nI b))) := FP.Core.val32_fdiv _ _
  rw [e, h1, k1]
  show (if d = 0 then (if c = 0 then FP.Core.Datum.nan else .inf (false != false)) else FP.Core.roundRatio FP.Core.b32 (false != false) c d ((n : Int) - 149 - ((k : Int) - 149))) = _
  rw [if_neg hd]
  refine FP.Core.roundRatio_congr (by omega) h0 ?_
  have hP : 0 < 2 ^ 149 := Nat.two_pow_pos 149
  generalize 2 ^ 149 = P at h2 k2 hP
  rcases Nat.le_total k n with g | g
  · rw [show ((n : Int) - 149 - ((k : Int) - 149) - 0).toNat = n - k by omega, show (0 - ((n : Int) - 149 - ((k : Int) - 149))).toNat = 0 by omega]
    have hk := Nat.two_pow_pos k
    refine Nat.eq_of_mul_eq_mul_right (Nat.mul_pos hk hP) ?_
    have en : 2 ^ n = 2 ^ (n - k) * 2 ^ k := by rw [← Nat.pow_add]; congr 1; omega
    calc c * b * 2 ^ (n - k) * (2 ^ k * P) = (c * (2 ^ (n - k) * 2 ^ k)) * (b * P) := by ac_rfl
      _ = (a * P) * (d * 2 ^ k) := by rw [← en, h2, k2]
      _ = a * d * 2 ^ 0 * (2 ^ k * P) := by rw [Nat.pow_zero, Nat.mul_one]; ac_rfl
  · rw [show ((n : Int) - 149 - ((k : Int) - 149) - 0).toNat = 0 by omega, show (0 - ((n : Int) - 149 - ((k : Int) - 149))).toNat = k - n by omega]
    have hk := Nat.two_pow_pos n
    refine Nat.eq_of_mul_eq_mul_right (Nat.mul_pos hk hP) ?_
    have en : 2 ^ k = 2 ^ (k - n) * 2 ^ n := by rw [← Nat.pow_add]; congr 1; omega
    calc c * b * 2 ^ 0 * (2 ^ n * P) = (c * 2 ^ n) * (b * P) := by rw [Nat.pow_zero, Nat.mul_one]; ac_rfl
      _ = (a * P) * (d * (2 ^ (k - n) * 2 ^ n)) := by rw [← en, h2, k2]
      _ = a * d * 2 ^ (k - n) * (2 ^ n * P) := by ac_rfl
theorem pw_lt {a b c : Nat} (h : c < 2 ^ 24) (k : c * 2 ^ a ≥ 2 ^ b) : b < 24 + a := by
  have h1 : c * 2 ^ a < 2 ^ (24 + a) := by
    rw [Nat.pow_add]
    exact Nat.mul_lt_mul_of_pos_right h (Nat.two_pow_pos a)
  exact (Nat.pow_lt_pow_iff_right (by decide : 1 < 2)).mp (Nat.lt_of_le_of_lt k h1)
theorem pw_le {a b c : Nat} (h : 2 ^ 23 ≤ c) (k : c * 2 ^ a ≤ 2 ^ b) : 23 + a ≤ b := by
  have h1 : 2 ^ (23 + a) ≤ c * 2 ^ a := by
    rw [Nat.pow_add]
    exact Nat.mul_le_mul_right _ h
  exact (Nat.pow_le_pow_iff_right (by decide : 1 < 2)).mp (Nat.le_trans h1 k)
theorem zm_32 (c : Nat) (q : Int) : FP.Core.zmag FP.Core.b32 (.fin false c q) = c * 2 ^ (q + 149).toNat := by
  show c * 2 ^ (q - FP.Core.b32.qmin).toNat = _
  rw [FP.Core.qmin_b32, show q - -149 = q + 149 by omega]
theorem share_shape {v : AS} (hI : IV v) : FP.Core.val32 (a_share v) = .fin false 0 (-149) ∨ ∃ c k : Nat, FP.Core.val32 (a_share v) = .fin false c (-23 - (k : Int)) ∧ 2 ^ 23 ≤ c ∧ c < 2 ^ 24 ∧ k ≤ 14 := by
  obtain ⟨a, b, e1, e2, hab, b1, b2⟩ := spent_n hI
  have e := share_q (a := a) (b := b) (by omega) (by omega) (by omega)
  have es : a_share v = FP.fdiv (FP.i2f (nI a)) (FP.i2f (nI b)) := by unfold a_share; rw [e1, e2]
  rw [es, e]
  rcases Nat.eq_zero_or_pos a with h0 | h0
  · left
    rw [h0]
    unfold FP.Core.roundRatio
    rw [if_pos rfl, FP.Core.qmin_b32]
  · right
    have le := FP.Core.zmag_roundRatio_le FP.Core.good_b32 (s := false) (A := a) (B := b) (e := 0) (e0 := -149) (V := .fin false (2 ^ 23) (-23)) (by omega) (fits_1 (by omega) (by omega)) (by simp) (by decide) (by decide) (by
      rw [zm_32]
      unfold FP.Core.inUnits
      rw [FP.Core.qmin_b32, show (0 - -149 : Int).toNat = 149 by decide, show (-23 + 149 : Int).toNat = 126 by decide, show (-149 - -149 : Int).toNat = 0 by decide, Nat.pow_zero, Nat.mul_one, ← Nat.pow_add, Nat.mul_comm]
      exact Nat.mul_le_mul_left _ hab)
    have ge := FP.Core.zmag_roundRatio_ge FP.Core.good_b32 (s := false) (A := a) (B := b) (e := 0) (e0 := -149) (V := .fin false (2 ^ 23) (-37)) (by omega) (fits_1 (by omega) (by omega)) (by decide) (by decide) (by
      rw [zm_32]
      unfold FP.Core.inUnits
      rw [FP.Core.qmin_b32, show (0 - -149 : Int).toNat = 149 by decide, show (-37 + 149 : Int).toNat = 112 by decide, show (-149 - -149 : Int).toNat = 0 by decide, Nat.pow_zero, Nat.mul_one, ← Nat.pow_add, show (2 : Nat) ^ 149 = 2 ^ 14 * 2 ^ (23 + 112) from by rw [← Nat.pow_add], ← Nat.mul_assoc, Nat.mul_comm]
      exact Nat.mul_le_mul_right _ (by omega))
    have hfit := FP.Core.roundRatio_fits FP.Core.good_b32 false a (B := b) (by omega) 0
    rcases FP.Core.roundRatio_cases FP.Core.b32 false a b 0 with ⟨c, q, hR⟩ | hR
    · rw [hR] at le ge hfit ⊢
      obtain ⟨f1, f2, f3, f4⟩ := hfit
      rw [FP.Core.qmin_b32] at f2 f4
      rw [zm_32, zm_32, show (-23 + 149 : Int).toNat = 126 by decide, ← Nat.pow_add] at le
      rw [zm_32, zm_32, show (-37 + 149 : Int).toNat = 112 by decide, ← Nat.pow_add] at ge
      have f1 : c < 2 ^ 24 := f1
      have l1 := pw_lt f1 ge
      have hc : 2 ^ 23 ≤ c := by
        rcases f4 with f4 | f4
        · rw [f4] at l1
          exact absurd l1 (by decide)
        · exact f4
      have l2 := pw_le hc le
      refine ⟨c, (-23 - q).toNat, ?_, hc, f1, by omega⟩
      rw [show -23 - (((-23 - q).toNat : Nat) : Int) = q by omega]
    · rw [hR] at le
      exact absurd le (by decide +kernel)
