/-! BITS of any mask; numbers as masks -/
theorem bv_1 (x : BitVec 32) : (x &&& 1#32 = 1#32) ↔ x.getLsbD 0 = true := by
  constructor
  · intro h
    have := congrArg (fun y : BitVec 32 => y.getLsbD 0) h
    simpa using this
  · intro h
    apply BitVec.eq_of_getLsbD_eq
    intro i hi
    rw [BitVec.getLsbD_and]
    by_cases e : i = 0
    · subst e
      rw [h]
      rfl
    · have : (1#32).getLsbD i = false := by
        rw [BitVec.getLsbD_one]
        simp [e]
      rw [this, Bool.and_false]
theorem hb_bit (m : Int32) {q : Nat} (hq : q < 8) : hb m (nI q) = m.toBitVec.getLsbD q := by
  have e1 : (nI 1).toBitVec = 1#32 := by decide
  have key : ∀ x : Int32, decide (x &&& nI 1 = nI 1) = x.toBitVec.getLsbD 0 := by
    intro x
    rw [Bool.eq_iff_iff, decide_eq_true_eq, ← bv_1]
    constructor
    · intro h
      have := congrArg Int32.toBitVec h
      rw [Int32.toBitVec_and, e1] at this
      exact this
    · intro h
      apply Int32.toBitVec_inj.mp
      rw [Int32.toBitVec_and, e1]
      exact h
  have sh : ∀ q, q < 8 → ((nI q &&& nI 31).toBitVec.smod 32).toNat = q := by decide
  unfold hb
  rw [key, Int32.toBitVec_shiftRight, BitVec.sshiftRight', sh q hq, BitVec.getLsbD_sshiftRight]
  simp
  omega
theorem hb_and (a b : Int32) {q : Nat} (hq : q < 8) : hb (a &&& b) (nI q) = (hb a (nI q) && hb b (nI q)) := by
  rw [hb_bit _ hq, hb_bit _ hq, hb_bit _ hq, Int32.toBitVec_and, BitVec.getLsbD_and]
theorem hb_or (a b : Int32) {q : Nat} (hq : q < 8) : hb (a ||| b) (nI q) = (hb a (nI q) || hb b (nI q)) := by
  rw [hb_bit _ hq, hb_bit _ hq, hb_bit _ hq, Int32.toBitVec_or, BitVec.getLsbD_or]
theorem hb_not (a : Int32) {q : Nat} (hq : q < 8) : hb (a ^^^ nM) (nI q) = !hb a (nI q) := by
  have e : ∀ q, q < 8 → nM.toBitVec.getLsbD q = true := by decide
  rw [hb_bit _ hq, hb_bit _ hq, Int32.toBitVec_xor, BitVec.getLsbD_xor, e q hq, Bool.xor_true]
theorem hb_mb : ∀ b, b < 8 → ∀ q, q < 8 → hb (mb b) (nI q) = decide (b = q) := by decide
theorem hb_0 : ∀ q, q < 8 → hb (nI 0) (nI q) = false := by decide
/-- numbers below 256 and their bits -/
theorem nI_and (a b : Nat) : nI a &&& nI b = nI (a &&& b) := by
  apply Int32.toBitVec_inj.mp
  show (BitVec.ofNat 32 a) &&& (BitVec.ofNat 32 b) = BitVec.ofNat 32 (a &&& b)
  rw [BitVec.ofNat_and]
theorem and_lt {a b : Nat} (h : b < 256) : a &&& b < 256 := Nat.and_lt_two_pow a (n := 8) h
theorem mq_n : ∀ b0 b1 b2 b3 b4 b5 b6 b7 : Bool, ∃ j, j < 256 ∧ mq8 b0 b1 b2 b3 b4 b5 b6 b7 = nI j := by
  intro b0 b1 b2 b3 b4 b5 b6 b7
  have h : ∀ b0 b1 b2 b3 b4 b5 b6 b7 : Bool, mq8 b0 b1 b2 b3 b4 b5 b6 b7 = nI (bn b0 + 2 * bn b1 + 4 * bn b2 + 8 * bn b3 + 16 * bn b4 + 32 * bn b5 + 64 * bn b6 + 128 * bn b7) := by decide +kernel
  have l : ∀ b, bn b ≤ 1 := by decide
  have l0 := l b0
  have l1 := l b1
  have l2 := l b2
  have l3 := l b3
  have l4 := l b4
  have l5 := l b5
  have l6 := l b6
  have l7 := l b7
  exact ⟨_, by omega, h b0 b1 b2 b3 b4 b5 b6 b7⟩
theorem mk_n (P : Nat → Bool) : ∃ j, j < 256 ∧ mk8 P 8 = nI j := by
  rw [mk_q]
  exact mq_n _ _ _ _ _ _ _ _
