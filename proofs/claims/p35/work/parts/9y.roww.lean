/-! THE LAW'S ROWS: the orders -/
def opv (v : AS) : Option AS → AS
  | none => v
  | some w => w
def oph (v : AS) (hs : List AS) : Option AS → List AS
  | none => hs
  | some _ => (v :: hs).take 6
section RW2
variable {S : PH} {G : Nat → Nat} {x nw m oj oe : Nat} {u v : AS} {hs : List AS} {nx : Nat} {sl : Nat → Option AS} {tn tn' : Nat} {tx : Nat → Int32} {i5 : Int32} {K : Int32 → PH → Prop}
theorem relO_e {o : Option AS} (h : RelO S G x nw v hs nx sl tn tx o) : ∃ nx', RelC S G x nw (opv v o) (oph v hs o) nx' sl tn tx := by
  cases o with
  | none => exact ⟨nx, h⟩
  | some w => exact ⟨_, h⟩
end RW2
section FV
variable {v : AS} {sl : Nat → Option AS} {tn : Nat} {tx : Nat → Int32}
theorem pn8 (hI : IV v) {i : Int32} (h : a_isP v i = true) : i.toNatClampNeg < a_n v := by
  obtain ⟨q, hq, rfl⟩ := isP_n hI h
  have := hI.in_.2
  rw [n_cl (by omega)]
  exact hq
theorem in8 {i : Int32} {k : Nat} (hk : k < 1000) (h : a_in i (nI 0) (nI k) = true) : i.toNatClampNeg ≤ k := by
  obtain ⟨p, hp, rfl⟩ := in_n (by omega) h
  rw [n_cl (by omega)]
  exact hp
theorem fv_paper (hI : IV v) (i j : Int32) : ∀ w, (f_paper v i j).2 = some w → IV w := by
  intro w hw
  unfold f_paper at hw
  split at hw
  · split at hw
    · split at hw
      · rename_i h3
        cases hw
        exact iv_pa hI _ _ h3
      · cases hw
    · cases hw
  · cases hw
theorem fv_topics (hI : IV v) (i j : Int32) : ∀ w, (f_topics v i j).2 = some w → IV w := by
  intro w hw
  unfold f_topics at hw
  split at hw
  · rename_i h1
    split at hw
    · cases hw
      exact iv_free hI (by omega) (Nat.lt_succ_of_le (in8 (by omega) h1))
    · cases hw
  · cases hw
theorem fv_meet (hI : IV v) (i j : Int32) : ∀ w, (f_meet v i j).2 = some w → IV w := by
  intro w hw
  unfold f_meet at hw
  split at hw
  · rename_i h1
    split at hw
    · rename_i h2
      split at hw
      · cases hw
      · rename_i h3
        cases hw
        obtain ⟨p, hp, rfl⟩ := in_n (by omega) h1
        obtain ⟨q, hq, rfl⟩ := in_n (by omega) h2
        rw [n_cl (by omega), n_cl (by omega)]
        exact iv_meet hI (by omega) (by omega) (fun z => h3 (by rw [z]))
    · cases hw
  · cases hw
theorem fv_set (hI : IV v) (i j : Int32) : ∀ w, (f_set v i j).2 = some w → IV w := by
  intro w hw
  unfold f_set at hw
  split at hw
  · rename_i h1
    split at hw
    · rename_i h2
      cases hw
      obtain ⟨p, hp, rfl⟩ := in_n (by omega) h1
      rw [n_cl (by omega)] at h2 ⊢
      have lo : ∀ p, p < 4 → ¬ sLo p < nI 0 := by decide
      have hi : ∀ p, p < 4 → sHi p ≤ nI 9 := by decide
      have h9 : a_in j (nI 0) (nI 9) = true := by
        unfold a_in at h2 ⊢
        rw [Bool.and_eq_true, Bool.not_eq_true', Bool.not_eq_true', decide_eq_false_iff_not, decide_eq_false_iff_not] at h2 ⊢
        have l1 := lo p (by omega)
        have l2 := hi p (by omega)
        exact ⟨fun z => h2.1 (Int32.lt_of_lt_of_le z (Int32.not_lt.mp l1)), fun z => h2.2 (Int32.lt_of_le_of_lt l2 z)⟩
      obtain ⟨k, hk, rfl⟩ := in_n (by omega) h9
      refine iv_11 hI (by omega) ?_
      have c0 : ∀ k, k < 10 → a_in (nI k) (sLo 0) (sHi 0) = true → 1 ≤ k ∧ k ≤ 4 := by decide
      have c1 : ∀ k, k < 10 → a_in (nI k) (sLo 1) (sHi 1) = true → k ≤ 2 := by decide
      have c3 : ∀ k, k < 10 → a_in (nI k) (sLo 3) (sHi 3) = true → k ≤ 3 := by decide
      rcases (show p = 0 ∨ p = 1 ∨ p = 2 ∨ p = 3 by omega) with rfl | rfl | rfl | rfl
      · have := c0 k (by omega) h2
        omega
      · have := c1 k (by omega) h2
        omega
      · omega
      · have := c3 k (by omega) h2
        omega
    · cases hw
  · cases hw
theorem fv_bring (hI : IV v) (i : Int32) : ∀ w, (f_bring v i).2 = some w → IV w := by
  intro w hw
  unfold f_bring at hw
  split at hw
  · rename_i h1
    split at hw
    · rename_i h2
      cases hw
      obtain ⟨j, hj, rfl⟩ : ∃ j, j ≤ 999 ∧ i = nI j := by
        refine in_n (by omega) ?_
        unfold a_in at h1 ⊢
        rw [Bool.and_eq_true, Bool.not_eq_true', Bool.not_eq_true', decide_eq_false_iff_not, decide_eq_false_iff_not] at h1 ⊢
        exact ⟨fun z => h1.1 (Int32.lt_trans z (by decide)), h1.2⟩
      obtain ⟨b1, b2⟩ := hI.br
      refine iv_bring hI ?_
      rw [b1, nI_add, nI_leI (by omega) (by omega)] at h2
      exact h2
    · cases hw
  · cases hw
theorem fv_week (hI : IV v) : ∀ w, (f_week v).2 = some w → IV w := by
  intro w hw
  unfold f_week at hw
  split at hw
  · cases hw
  · cases hw
    exact iv_week hI
theorem fv_take (hI : IV v) (i j : Int32) : ∀ w, (f_take v i j).2 = some w → IV w := by
  intro w hw
  unfold f_take at hw
  split at hw
  · rename_i h1
    split at hw
    · rename_i h2
      cases hw
      exact iv_take hI (pn8 hI h2) (Nat.lt_succ_of_le (in8 (by omega) h1))
    · cases hw
  · cases hw
theorem fv_write (hI : IV v) (i j s : Int32) : ∀ w, (f_write v i j s).2 = some w → IV w := by
  intro w hw
  unfold f_write at hw
  split at hw
  · rename_i h1
    split at hw
    · rename_i h2
      split at hw
      · rename_i h3
        split at hw
        · cases hw
          obtain ⟨k, hk, rfl⟩ := isS_n9 h3
          exact iv_write hI (pn8 hI h2) (Nat.lt_succ_of_le (in8 (by omega) h1)) hk
        · cases hw
      · cases hw
    · cases hw
  · cases hw
theorem fv_drop (hI : IV v) (i j : Int32) : ∀ w, (f_drop v i j).2 = some w → IV w := by
  intro w hw
  unfold f_drop at hw
  split at hw
  · rename_i h1
    split at hw
    · rename_i h2
      split at hw
      · rename_i h3
        cases hw
        exact iv_drop hI (pn8 hI h2) (Nat.lt_succ_of_le (in8 (by omega) h1)) (of_decide_eq_true h3)
      · cases hw
    · cases hw
  · cases hw
theorem fv_discuss (hI : IV v) (j : Int32) : ∀ w, (f_discuss v j).2 = some w → IV w := by
  intro w hw
  unfold f_discuss at hw
  split at hw
  · rename_i h2
    cases hw
    exact iv_disc hI (pn8 hI h2)
  · cases hw
theorem fv_rebut (hI : IV v) (j : Int32) : ∀ w, (f_rebut v j).2 = some w → IV w := by
  intro w hw
  unfold f_rebut at hw
  split at hw
  · rename_i h2
    cases hw
    exact iv_reb hI (pn8 hI h2)
  · cases hw
theorem fv_decide (hI : IV v) (j : Int32) : ∀ w, (f_decide v j).2 = some w → IV w := by
  intro w hw
  unfold f_decide at hw
  split at hw
  · rename_i h2
    split at hw
    · cases hw
      have h8 := hI.in_.2
      have hq := pn8 hI h2
      by_cases g : a_dec v j.toNatClampNeg = true
      · rw [if_pos g]; exact iv_9 hI hq (by omega) (by omega)
      · rw [if_neg g]; exact iv_9 hI hq (by omega) (by omega)
    · cases hw
  · cases hw
theorem fv_go (hS : ∀ i w, i < 2 → sl i = some w → IV w) (i : Int32) : ∀ w, (f_go v sl i).2 = some w → IV w := by
  intro w hw
  unfold f_go at hw
  split at hw
  · rename_i h1
    split at hw
    · cases hw
    · rename_i z hz
      cases hw
      exact hS _ _ (Nat.lt_succ_of_le (in8 (by omega) h1)) hz
  · cases hw
end FV
