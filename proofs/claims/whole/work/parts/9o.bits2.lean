/-! BITS: the two machines' loops -/
section BT
variable {S : PH}
theorem p_up {d0 : UInt64} {s : Int64} {R : Int64 × PH} : ∀ n (r : UInt64) (e : Int64) r' e', r_up n r e = some (r', e') → j_X4_doubleBits_107 d0 s r' e' S = some R → lp (st_X4_doubleBits_76 d0) (s, r, e, S) = some R
  | 0, r, e, r', e', h, _ => by cases h
  | n + 1, r, e, r', e', h, k => by
    unfold r_up at h
    by_cases c1 : 0 ≤ (Op.cmpValue (FP.dcmp r FP.dconst1) .g)
    · rw [if_pos c1] at h
      cases h
      refine lp_inr ?_
      unfold st_X4_doubleBits_76
      dsimp only
      rw [if_pos c1, k]
      rfl
    · rw [if_neg c1] at h
      by_cases c2 : (lg_cmp e (1 : Int64)) ≤ 0
      · rw [if_pos c2] at h
        cases h
        refine lp_inr ?_
        unfold st_X4_doubleBits_76
        dsimp only
        rw [if_neg c1, if_pos c2, k]
        rfl
      · rw [if_neg c2] at h
        by_cases c3 : nn64 (FP.dmul r (4611686018427387904 : UInt64)) = true
        · rw [if_pos c3] at h
          rw [← p_up n _ _ r' e' h k]
          refine lp_inl ?_
          unfold st_X4_doubleBits_76
          dsimp only
          rw [if_neg c1, if_neg c2, ck_t c3]
          rfl
        · rw [if_neg c3] at h
          cases h
theorem p_dn {d0 : UInt64} {s : Int64} {R : Int64 × PH} : ∀ n (r : UInt64) (e : Int64) r' e', r_dn n r e = some (r', e') → lp (st_X4_doubleBits_76 d0) (s, r', e', S) = some R → lp (st_X4_doubleBits_41 d0) (s, r, e, S) = some R
  | 0, r, e, r', e', h, _ => by cases h
  | n + 1, r, e, r', e', h, k => by
    unfold r_dn at h
    by_cases c1 : (Op.cmpValue (FP.dcmp r (4611686018427387904 : UInt64)) .l) < 0
    · rw [if_pos c1] at h
      cases h
      refine lp_inr ?_
      unfold st_X4_doubleBits_41
      dsimp only
      rw [if_pos c1, k]
      rfl
    · rw [if_neg c1] at h
      by_cases c2 : 0 ≤ (lg_cmp e (2046 : Int64))
      · rw [if_pos c2] at h
        cases h
        refine lp_inr ?_
        unfold st_X4_doubleBits_41
        dsimp only
        rw [if_neg c1, if_pos c2, k]
        rfl
      · rw [if_neg c2] at h
        by_cases c3 : nn64 (FP.dmul r (4602678819172646912 : UInt64)) = true
        · rw [if_pos c3] at h
          rw [← p_dn n _ _ r' e' h k]
          refine lp_inl ?_
          unfold st_X4_doubleBits_41
          dsimp only
          rw [if_neg c1, if_neg c2, ck_t c3]
          rfl
        · rw [if_neg c3] at h
          cases h
theorem p_go {d0 x : UInt64} {s y : Int64} (h : r_go s x = some y) : lp (st_X4_doubleBits_41 d0) (s, x, (1023 : Int64), S) = some (y, S) := by
  unfold r_go at h
  cases h1 : r_dn 12 x (1023 : Int64) with
  | none => rw [h1] at h; cases h
  | some p =>
    rw [h1] at h
    have h : (r_up 12 p.1 p.2).bind (fun p => r_fin s p) = some y := h
    cases h2 : r_up 12 p.1 p.2 with
    | none => rw [h2] at h; cases h
    | some q =>
      rw [h2] at h
      have h : r_fin s q = some y := h
      refine p_dn 12 x _ p.1 p.2 h1 (p_up 12 p.1 p.2 q.1 q.2 h2 ?_)
      unfold r_fin at h
      unfold j_X4_doubleBits_107
      by_cases c1 : nn64 (FP.dsub q.1 FP.dconst1) = true
      · rw [if_pos c1] at h
        rw [ck_t c1]
        by_cases c2 : nn64 (FP.dmul (FP.dsub q.1 FP.dconst1) (4841369599423283200 : UInt64)) = true
        · rw [if_pos c2] at h
          rw [ck_t c2]
          cases h
          rfl
        · rw [if_neg c2] at h; cases h
      · rw [if_neg c1] at h; cases h
theorem p_dbl {x : UInt64} {y : Int64} (h : dbl x = some y) : m_X4_doubleBits x S = some (y, S) := by
  unfold dbl at h
  unfold m_X4_doubleBits
  by_cases c0 : (Op.cmpValue (FP.dcmp x FP.dconst0) .l) = 0
  · rw [if_pos c0] at h ⊢
    cases h
    rfl
  · rw [if_neg c0] at h ⊢
    by_cases c1 : 0 ≤ (Op.cmpValue (FP.dcmp x FP.dconst0) .g)
    · rw [if_pos c1] at h ⊢
      unfold j_X4_doubleBits_21 j_X4_doubleBits_34
      rw [if_pos c1]
      exact p_go h
    · rw [if_neg c1] at h ⊢
      unfold j_X4_doubleBits_21 j_X4_doubleBits_34
      rw [if_neg c1]
      exact p_go h
theorem o_up {d0 : UInt64} {k one : Int64} {R : Int64 × PH} : ∀ n (r : UInt64) (e : Int64) r' e', s_up n r e = some (r', e') → (∀ z, z = st_X5_bits_41 d0 k one (r', e', S) → 0 ≤ (Op.cmpValue (FP.dcmp r' FP.dconst1) .g) → z = some (.inr R)) → lp (st_X5_bits_41 d0 k one) (r, e, S) = some R
  | 0, r, e, r', e', h, _ => by cases h
  | n + 1, r, e, r', e', h, g => by
    unfold s_up at h
    by_cases c1 : 0 ≤ (Op.cmpValue (FP.dcmp r FP.dconst1) .g)
    · rw [if_pos c1] at h
      cases h
      exact lp_inr (g _ rfl c1)
    · rw [if_neg c1] at h
      by_cases c3 : nn64 (FP.dmul r (4611686018427387904 : UInt64)) = true
      · rw [if_pos c3] at h
        rw [← o_up n _ _ r' e' h g]
        refine lp_inl ?_
        unfold st_X5_bits_41
        dsimp only
        rw [if_neg c1, ck_t c3]
        rfl
      · rw [if_neg c3] at h
        cases h
theorem o_dn {d0 : UInt64} {k one : Int64} {R : Int64 × PH} : ∀ n (r : UInt64) (e : Int64) r' e', s_dn n r e = some (r', e') → lp (st_X5_bits_41 d0 k one) (r', e', S) = some R → lp (st_X5_bits_15 d0 k one) (r, e, S) = some R
  | 0, r, e, r', e', h, _ => by cases h
  | n + 1, r, e, r', e', h, g => by
    unfold s_dn at h
    by_cases c1 : (Op.cmpValue (FP.dcmp r (4611686018427387904 : UInt64)) .l) < 0
    · rw [if_pos c1] at h
      cases h
      refine lp_inr ?_
      unfold st_X5_bits_15
      dsimp only
      rw [if_pos c1, g]
      rfl
    · rw [if_neg c1] at h
      by_cases c3 : nn64 (FP.ddiv r (4611686018427387904 : UInt64)) = true
      · rw [if_pos c3] at h
        rw [← o_dn n _ _ r' e' h g]
        refine lp_inl ?_
        unfold st_X5_bits_15
        dsimp only
        rw [if_neg c1, ck_t c3]
        rfl
      · rw [if_neg c3] at h
        cases h
theorem o_bts {x : UInt64} {k one y : Int64} (h : bts x k one = some y) : m_X5_bits x k one S = some (y, S) := by
  unfold bts at h
  unfold m_X5_bits
  by_cases c0 : (Op.cmpValue (FP.dcmp x FP.dconst0) .l) = 0
  · rw [if_pos c0] at h ⊢
    cases h
    rfl
  · rw [if_neg c0] at h ⊢
    cases h1 : s_dn 12 x one with
    | none => rw [h1] at h; cases h
    | some p =>
      rw [h1] at h
      have h : (s_up 12 p.1 p.2).bind (fun p => s_fin k p) = some y := h
      cases h2 : s_up 12 p.1 p.2 with
      | none => rw [h2] at h; cases h
      | some q =>
        rw [h2] at h
        have h : s_fin k q = some y := h
        refine o_dn 12 x _ p.1 p.2 h1 (o_up 12 p.1 p.2 q.1 q.2 h2 (fun z hz c1 => ?_))
        rw [hz]
        unfold s_fin at h
        unfold st_X5_bits_41
        dsimp only
        rw [if_pos c1]
        by_cases c2 : nn64 (FP.dsub q.1 FP.dconst1) = true
        · rw [if_pos c2] at h
          rw [ck_t c2]
          by_cases c3 : nn64 (FP.dmul (FP.dsub q.1 FP.dconst1) (FP.l2d k)) = true
          · rw [if_pos c3] at h
            rw [ck_t c3]
            cases h
            rfl
          · rw [if_neg c3] at h; cases h
        · rw [if_neg c2] at h; cases h
/-- the bits of a row's mean -/
def a_mb (r : Nat → Int32) : Int64 := (dbl (a_mean r)).getD 0
theorem ok_mean (r : Nat → Int32) : okb (a_mean r) = true := by
  obtain ⟨e1, e2, h1, h2⟩ := mean_ab r
  unfold a_mean
  by_cases g : cnt (sc r) 8 = 0
  · rw [if_pos (by rw [e1, g]; exact Int32.le_refl _)]
    exact ok_m1
  · rw [if_neg (by rw [e1, nI_leI (by omega) (by omega)]; omega), e1, e2]
    have k := ok_means _ h2 (cnt (sc r) 8 - 1) (by omega)
    rwa [show cnt (sc r) 8 - 1 + 1 = cnt (sc r) 8 by omega] at k
theorem mb_some (r : Nat → Int32) : dbl (a_mean r) = some (a_mb r) ∧ rbits (a_mean r) = some (a_mb r) := by
  have k := ok_mean r
  unfold okb at k
  rw [Bool.and_eq_true, decide_eq_true_eq] at k
  obtain ⟨k1, k2⟩ := k
  have e : dbl (a_mean r) = some (a_mb r) := by
    unfold a_mb
    cases h : dbl (a_mean r) with
    | none => rw [h] at k2; cases k2
    | some y => rfl
  exact ⟨e, k1.symm.trans e⟩
theorem p_mb (r : Nat → Int32) : m_X4_doubleBits (a_mean r) S = some (a_mb r, S) := p_dbl (mb_some r).1
end BT
