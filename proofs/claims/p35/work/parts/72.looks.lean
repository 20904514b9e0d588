/-! THE FACE: looks -/
theorem rngU {α : Type} {i : Int32} {A B : α} (u : Nat) (hu : u + 1 < 2147483648) : (if i < nI 0 then A else if i < nI (u + 1) then B else A) = if a_in i (nI 0) (nI u) = true then B else A := by
  have e : (i < nI (u + 1)) = (i ≤ nI u) := by
    refine propext ?_
    rw [Int32.le_iff_toInt_le, Int32.lt_iff_toInt_lt, nI_toInt (by omega), nI_toInt (by omega)]
    omega
  rw [← rng]
  simp only [e]
section LK
variable {S : PH} {G : Nat → Nat} {x nw : Nat} {v : AS} {hl : Int32}
def f_per (v : AS) (i w : Int32) : Nat ⊕ Int32 := if a_in i (nI 0) (nI 7) then (if a_in w (nI 0) (nI 8) then .inr (a_per v i.toNatClampNeg w.toNatClampNeg) else .inl 0) else .inl 2
theorem k_per (h : RC S G x nw) (hr : rep S nw v) (hI : IV v) (i w : Int32) : m_X4_personOf (some x) i w S = some (f_per v i w, S) := by
  unfold m_X4_personOf f_per
  rw [k_req]
  by_cases h1 : a_in i (nI 0) (nI 7) = true
  · rw [if_pos h1, if_pos h1, bt_r, show ((0 : Int32)) = nI 0 from rfl, show (9 : Int32) = nI (8 + 1) from rfl, rngU 8 (by omega)]
    by_cases h2 : a_in w (nI 0) (nI 8) = true
    · rw [if_pos h2, if_pos h2]
      obtain ⟨p, hp, rfl⟩ := in_n (by omega) h1
      obtain ⟨k, hk, rfl⟩ := in_n (by omega) h2
      rw [h.x4, p_person h hr (by omega) hI.s1.1 hI.s1.2 hI.in_.1 hI.in_.2 (by omega), bd_t, n_cl (by omega), n_cl (by omega)]
    · rw [if_neg h2, if_neg h2]
      rfl
  · rw [if_neg h1, if_neg h1]
    rfl
def f_pap (v : AS) (i w : Int32) : Nat ⊕ Int32 := if a_isP v i then (if a_in w (nI 0) (nI 9) then .inr (a_pap v i.toNatClampNeg w.toNatClampNeg) else .inl 0) else .inl 2
theorem k_pap (h : RC S G x nw) (hr : rep S nw v) (hI : IV v) (i w : Int32) : m_X4_paperOf (some x) i w S = some (f_pap v i w, S) := by
  unfold m_X4_paperOf f_pap
  rw [h.x4, k_reqP h hr]
  by_cases h1 : a_isP v i = true
  · rw [if_pos h1, if_pos h1, bt_r, show ((0 : Int32)) = nI 0 from rfl, show (10 : Int32) = nI (9 + 1) from rfl, rngU 9 (by omega)]
    by_cases h2 : a_in w (nI 0) (nI 9) = true
    · rw [if_pos h2, if_pos h2]
      obtain ⟨q, hq, rfl⟩ := isP_n hI h1
      have h8 := hI.in_.2
      obtain ⟨k, hk, rfl⟩ := in_n (by omega) h2
      rw [h.x4, p_paper h hr (by omega) (by omega), bd_t, n_cl (by omega), n_cl (by omega)]
    · rw [if_neg h2, if_neg h2]
      rfl
  · rw [if_neg h1, if_neg h1]
    rfl
def f_sco (v : AS) (i j : Int32) : Nat ⊕ Int32 := if a_in i (nI 0) (nI 7) then (if a_isP v j then .inr (v (20 + j.toNatClampNeg) i.toNatClampNeg) else .inl 2) else .inl 2
theorem k_sco (h : RC S G x nw) (hr : rep S nw v) (hI : IV v) (i j : Int32) : m_X4_score (some x) i j S = some (f_sco v i j, S) := by
  unfold m_X4_score f_sco
  rw [k_req]
  by_cases h1 : a_in i (nI 0) (nI 7) = true
  · rw [if_pos h1, if_pos h1, bt_r, h.x4, k_reqP h hr]
    by_cases h2 : a_isP v j = true
    · rw [if_pos h2, if_pos h2, bt_r]
      obtain ⟨p, hp, rfl⟩ := in_n (by omega) h1
      obtain ⟨q, hq, rfl⟩ := isP_n hI h2
      have h8 := hI.in_.2
      rw [h.x4, h.r0, h.now, h.st.ds, h.st.ns, ck_n (by omega) (by omega), n_cl (by omega), h.st.dw (by omega), h.st.nw (by omega), ck_n (by omega) (by omega), n_cl (by omega), hr.w (by omega)]
    · rw [if_neg h2, if_neg h2]
      rfl
  · rw [if_neg h1, if_neg h1]
    rfl
def f_cnt (v : AS) (hl w : Int32) : Nat ⊕ Int32 := if a_in w (nI 0) (nI 11) then .inr (a_num v hl w.toNatClampNeg) else .inl 0
theorem k_cnt (h : RC S G x nw) (hr : rep S nw v) (hs : p_I S (rf S x 1) 2 = hl) (w : Int32) : m_X4_count (some x) w S = some (f_cnt v hl w, S) := by
  unfold m_X4_count f_cnt
  rw [show ((0 : Int32)) = nI 0 from rfl, show (12 : Int32) = nI (11 + 1) from rfl, rngU 11 (by omega)]
  by_cases h2 : a_in w (nI 0) (nI 11) = true
  · rw [if_pos h2, if_pos h2]
    obtain ⟨k, hk, rfl⟩ := in_n (by omega) h2
    rw [h.x4, p_number h hr hs (by omega), bd_t, n_cl (by omega)]
  · rw [if_neg h2, if_neg h2]
    rfl
def f_set1 (v : AS) (i : Int32) : Nat ⊕ Int32 := if a_in i (nI 0) (nI 3) then .inr (v 11 i.toNatClampNeg) else .inl 2
theorem k_set1 (h : RC S G x nw) (hr : rep S nw v) (i : Int32) : m_X4_setting (some x) i S = some (f_set1 v i, S) := by
  unfold m_X4_setting f_set1
  rw [k_reqS]
  by_cases h1 : a_in i (nI 0) (nI 3) = true
  · rw [if_pos h1, if_pos h1, bt_r]
    obtain ⟨p, hp, rfl⟩ := in_n (by omega) h1
    rw [h.x4, h.r0, h.now, h.st.d11, h.st.n11, ck_n (by omega) (by omega), n_cl (by omega), hr.f11]
  · rw [if_neg h1, if_neg h1]
    rfl
def f_why (v : AS) (i j : Int32) : Nat ⊕ Int32 := if a_in i (nI 0) (nI 7) then (if a_isP v j then .inr (a_why v i.toNatClampNeg j.toNatClampNeg) else .inl 2) else .inl 2
theorem k_why (h : RC S G x nw) (hr : rep S nw v) (hI : IV v) (i j : Int32) : m_X4_whyNot (some x) i j S = some (f_why v i j, S) := by
  unfold m_X4_whyNot f_why
  rw [k_req]
  by_cases h1 : a_in i (nI 0) (nI 7) = true
  · rw [if_pos h1, if_pos h1, bt_r, h.x4, k_reqP h hr]
    by_cases h2 : a_isP v j = true
    · rw [if_pos h2, if_pos h2, bt_r]
      obtain ⟨p, hp, rfl⟩ := in_n (by omega) h1
      obtain ⟨q, hq, rfl⟩ := isP_n hI h2
      have h8 := hI.in_.2
      rw [h.x4, p_why h hr (by omega) (by omega) hI.s1.1 hI.s1.2, bd_t, n_cl (by omega), n_cl (by omega)]
    · rw [if_neg h2, if_neg h2]
      rfl
  · rw [if_neg h1, if_neg h1]
    rfl
def f_best (v : AS) (j : Int32) : Nat ⊕ Int32 := if a_isP v j then .inr (a_best v j.toNatClampNeg) else .inl 2
theorem k_best (h : RC S G x nw) (hr : rep S nw v) (hI : IV v) (j : Int32) : m_X4_bestReviewer (some x) j S = some (f_best v j, S) := by
  unfold m_X4_bestReviewer f_best
  rw [h.x4, k_reqP h hr]
  by_cases h2 : a_isP v j = true
  · rw [if_pos h2, if_pos h2, bt_r]
    obtain ⟨q, hq, rfl⟩ := isP_n hI h2
    have h8 := hI.in_.2
    rw [h.x4, p_best h hr (by omega) hI.s1.1 hI.s1.2, bd_t, n_cl (by omega)]
  · rw [if_neg h2, if_neg h2]
    rfl
end LK
