/-! THE FACE: means, shares -/
theorem nn32_n {r : UInt32} (h : FP.Core.fIsNaN r = false) : nn32 r = true := by
  have k : ¬ 2139095040 < r.toNat % 2 ^ 31 := fun z => by
    have := (FP.Core.isNaN_bits32 r).mpr z
    rw [h] at this
    cases this
  unfold nn32
  refine decide_eq_true ?_
  rw [UInt32.le_iff_toNat_le, UInt32.toNat_and]
  show r.toNat &&& (2 ^ 31 - 1) ≤ 2139095040
  rw [Nat.and_two_pow_sub_one_eq_mod]
  omega
theorem nn64_n {r : UInt64} (h : FP.Core.dIsNaN r = false) : nn64 r = true := by
  have k : ¬ 9218868437227405312 < r.toNat % 2 ^ 63 := fun z => by
    have := (FP.Core.isNaN_bits r).mpr z
    rw [h] at this
    cases this
  unfold nn64
  refine decide_eq_true ?_
  rw [UInt64.le_iff_toNat_le, UInt64.toNat_and]
  show r.toNat &&& (2 ^ 63 - 1) ≤ 9218868437227405312
  rw [Nat.and_two_pow_sub_one_eq_mod]
  omega
theorem mean_ab (r : Nat → Int32) : a_bc (a_wri r) = nI (cnt (sc r) 8) ∧ a_sum r = nI (sm (ns r) 8) ∧ cnt (sc r) 8 ≤ 8 ∧ sm (ns r) 8 < 73 := by
  have h1 := cnt_le (sc r) 8
  have h2 := ns_le r 8
  exact ⟨wri_bc r, sum_nI r, h1, by omega⟩
theorem mean_nn (r : Nat → Int32) (h : ¬ cnt (sc r) 8 = 0) : nn64 (FP.ddiv (FP.i2d (a_sum r)) (FP.i2d (a_bc (a_wri r)))) = true := by
  obtain ⟨e1, e2, h1, h2⟩ := mean_ab r
  rw [e1, e2]
  have k := nn_mean _ h2 (cnt (sc r) 8 - 1) (by omega)
  rwa [show cnt (sc r) 8 - 1 + 1 = cnt (sc r) 8 by omega] at k
theorem p_meanIn {S : PH} {r : Option Nat} (h : a8 S r 6 8) : m_X4_meanIn r S = some (a_mean (p_I S (r.getD 0)), S) := by
  obtain ⟨e1, e2, h1, h2⟩ := mean_ab (p_I S (r.getD 0))
  unfold m_X4_meanIn a_mean
  rw [p_writersIn h, bd_t, p_bitCount, bd_t]
  by_cases g : cnt (sc (p_I S (r.getD 0))) 8 = 0
  · have g' : a_bc (a_wri (p_I S (r.getD 0))) ≤ nI 0 := by rw [e1, g]; exact Int32.le_refl _
    rw [if_pos (show a_bc (a_wri (p_I S (r.getD 0))) ≤ 0 from g'), if_pos g']
  · have g' : ¬ a_bc (a_wri (p_I S (r.getD 0))) ≤ nI 0 := by rw [e1, nI_leI (by omega) (by omega)]; omega
    rw [if_neg (show ¬ a_bc (a_wri (p_I S (r.getD 0))) ≤ 0 from g'), if_neg g', p_sumIn h, bd_t, ck_t (mean_nn _ g)]
def f_mean (v : AS) (j : Int32) : Nat ⊕ UInt64 := if a_isP v j then .inr (a_mean (v (20 + j.toNatClampNeg))) else .inl 2
def a_share (v : AS) : UInt32 := FP.fdiv (FP.i2f (a_spent v)) (FP.i2f (nI 100 + v 15 0))
theorem share_den {v : AS} (hI : IV v) : ∃ b, 100 ≤ b ∧ b ≤ 10099 ∧ nI 100 + v 15 0 = nI b ∧ b = 100 + nv v 15 0 := by
  obtain ⟨h1, h2⟩ := hI.br
  exact ⟨100 + nv v 15 0, by omega, by omega, by rw [h1, nI_add], rfl⟩
theorem nI_nz {b : Nat} (h : 0 < b) (hb : b < 100000) : nI b ≠ 0 := fun z => by
  have := (nI_eq (show b < 2147483648 by omega) (show 0 < 2147483648 by omega)).mp z
  omega
theorem share_nn {v : AS} (hI : IV v) : nn32 (a_share v) = true := by
  obtain ⟨b, b1, b2, b3, _⟩ := share_den hI
  refine nn32_n (FP.Core.fdiv_out ?_ (FP.Core.i2f_fin _) ?_)
  · have := (FP.Core.i2f_fin (a_spent v))
    exact (FP.Core.notNaN_iff32 _).mpr (by
      obtain ⟨s, c, q, e⟩ := this
      rw [e]
      exact fun z => by cases z)
  · rw [b3, FP.Core.zero_bits232]
    exact FP.Core.i2f_ne_zero (nI_nz (by omega) (by omega))
section MS2
variable {S : PH} {G : Nat → Nat} {x nw m : Nat} {u v : AS} {hs : List AS} {nx : Nat} {sl : Nat → Option AS} {tn : Nat} {tx : Nat → Int32}
theorem p_mean (h : RC S G x nw) (hr : rep S nw v) {q : Nat} (hq : q < 8) : m_X4_meanIn (p_R S (rf S nw 10) q) S = some (a_mean (v (20 + q)), S) := by
  have k := p_meanIn (S := S) (h.st.w hq)
  rw [show (p_R S (rf S nw 10) q).getD 0 = rf S (rf S nw 10) q from rfl, hr.w hq] at k
  exact k
theorem k_mean (h : RelC S G x nw v hs nx sl tn tx) (hI : IV v) (j : Int32) : m_X4_meanScore (some x) j S = some (f_mean v j, S) := by
  unfold m_X4_meanScore f_mean
  rw [h.rc.x4, k_reqP h.rc h.rv]
  by_cases h2 : a_isP v j = true
  · rw [if_pos h2, if_pos h2, bt_r]
    obtain ⟨q, hq, rfl⟩ := isP_n hI h2
    have h8 := hI.in_.2
    rw [n_cl (by omega), h.rc.x4, h.rc.r0, h.rc.now, h.rc.st.ds, h.rc.st.ns, ck_n (by omega) (by omega), p_mean h.rc h.rv (by omega), bd_t]
  · rw [if_neg h2, if_neg h2]
    rfl
theorem p_share (h : RC S G x nw) (hr : rep S nw v) (hI : IV v) : m_X4_shareOfSpent (some x) S = some (a_share v, S) := by
  obtain ⟨b, b1, b2, b3, _⟩ := share_den hI
  have n0 : ¬ nI b ≤ 0 := by
    show ¬ nI b ≤ nI 0
    rw [nI_leI (by omega) (by omega)]
    omega
  have k := share_nn hI
  unfold a_share at k ⊢
  unfold m_X4_shareOfSpent
  rw [h.x4, h.r0, h.now, hr.i 15 (by decide) (by decide), show ((100 : Int32)) = nI 100 from rfl]
  rw [b3] at k ⊢
  rw [le_t, if_neg n0, p_allSpent h hr, bd_t, ck_t k]
theorem k_share (h : RelC S G x nw v hs nx sl tn tx) (hI : IV v) : m_X4_spentShare (some x) S = some (a_share v, S) := by
  unfold m_X4_spentShare
  rw [h.rc.x4, p_share h.rc h.rv hI, bd_t]
end MS2
